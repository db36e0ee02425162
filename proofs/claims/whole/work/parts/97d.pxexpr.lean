/-! ===== PURE: read: the class's units ===== -/
theorem nI_l64 {n : Nat} (h : n < 2 ^ 31) : (nI n).toInt64 = lN n := by
  apply Int64.toInt_inj.mp
  rw [Int32.toInt_toInt64, nI_toInt h, lN_toInt h]
theorem lgc_lt (x y : Int64) : (lg_cmp x y < 0) ↔ x < y := by
  unfold lg_cmp
  by_cases h : x > y
  · rw [if_pos h]
    refine iff_of_false (by decide) (fun q => ?_)
    rw [gt_iff_lt, Int64.lt_iff_toInt_lt] at h
    rw [Int64.lt_iff_toInt_lt] at q
    omega
  · rw [if_neg h]
    by_cases e : x = y
    · rw [if_pos e]
      refine iff_of_false (by decide) (fun q => ?_)
      rw [e, Int64.lt_iff_toInt_lt] at q; omega
    · rw [if_neg e]
      refine iff_of_true (by decide) ?_
      rw [gt_iff_lt, Int64.lt_iff_toInt_lt] at h
      rw [Int64.lt_iff_toInt_lt]
      have : x.toInt ≠ y.toInt := fun z => e (Int64.toInt_inj.mp z)
      omega
theorem lgc_gt (x y : Int64) : (0 < lg_cmp x y) ↔ y < x := by
  unfold lg_cmp
  by_cases h : x > y
  · rw [if_pos h]; exact iff_of_true (by decide) h
  · rw [if_neg h]
    refine iff_of_false ?_ h
    split <;> decide
theorem xOpnN {Q : Prop} {tk tv pl : Nat → Nat} {xn : Nat → Int64} {K : Nat} {al oT oP : Nat → Nat} {L : Nat} {s : PS} {σ : ST} {d : Nat} (hT : TKs tk tv pl L) (hX : XTk tk tv pl xn L σ) (h : XS Q pl K al oT oP L s σ) (hd : d ≤ 6) : ∃ σ', fX2_acceptOpening (nI d) σ = some σ' ∧ fr [2, 3, 4] [] [] σ σ' ∧ XRs Q pl K al oT oP L (aOpn tk d s) σ' := by
  have h3 := h.2.2.1
  have hki := kx_inj (hT.2.2.1 _ h3).1 (show 7 < 29 by decide)
  obtain ⟨σ1, r1, r2, r3⟩ := xAccN (k := 7) hT hX h (by decide) (by decide) (by decide)
  unfold fX2_acceptOpening aOpn
  rw [xPeekN hT hX h, Option.bind_some]
  simp only [lt_def]
  have e40 : (40 : Int32) = nI (kx 7) := rfl
  rw [e40]
  by_cases c : tk s.1 = 7
  · rw [if_pos (hki.mpr c)]
    by_cases c2 : 6 ≤ d
    · rw [if_pos (show tk s.1 = 7 ∧ 6 ≤ d from ⟨c, c2⟩), if_neg (show ¬ nI d < (6 : Int32) from fun z => by rw [show (6 : Int32) = nI 6 from rfl, nI_lt_iff (by omega) (by decide)] at z; omega)]
      obtain ⟨σ2, s1, s2, s3⟩ := xFailN (e := 2) (Or.inr rfl) hT hX h
      rw [show (2 : Int32) = nI 2 from rfl, s1, Option.bind_some, xAccF s3, Option.bind_some]
      exact ⟨σ2, rfl, s2, s3⟩
    · rw [if_neg (show ¬ (tk s.1 = 7 ∧ 6 ≤ d) from fun z => c2 z.2), if_pos (show nI d < (6 : Int32) from nI_lt (show d < 6 by omega) (by decide)), r1, Option.bind_some]
      exact ⟨σ1, rfl, r2, r3⟩
  · rw [if_neg (fun q => c (hki.mp q)), if_neg (show ¬ (tk s.1 = 7 ∧ 6 ≤ d) from fun z => c z.1), r1, Option.bind_some]
    exact ⟨σ1, rfl, r2, r3⟩
theorem xOpnF {pl : Nat → Nat} {K : Nat} {e : Nat × Nat} {σ : ST} (h : XFl pl K e σ) (x : Int32) : fX2_acceptOpening x σ = some σ := by
  unfold fX2_acceptOpening
  rw [xPeekF h, Option.bind_some]
  simp only [lt_def]
  rw [if_neg (by decide), xAccF h, Option.bind_some]
theorem xIntN {Q : Prop} {tk tv pl : Nat → Nat} {xn : Nat → Int64} {K : Nat} {al oT oP : Nat → Nat} {L : Nat} {s : PS} {σ : ST} {lo hi : Nat} (hlo : lo < 10000) (hhi : hi < 10000) (hsf : s.2.2.2.2.1 < 9) (hT : TKs tk tv pl L) (hX : XTk tk tv pl xn L σ) (h : XS Q pl K al oT oP L s σ) : ∃ σ' w, fX2_acceptInt (nI lo) (nI hi) σ = some (w, σ') ∧ fr [2, 3, 4, 5, 6] [] [] σ σ' ∧ XRs Q pl K al oT oP L (aInt tk tv lo hi s) σ' ∧ (tk s.1 = 2 → lo ≤ tv s.1 → tv s.1 ≤ hi → w = nI (tv s.1)) := by
  have hL := hT.1
  have h3 := h.2.2.1
  obtain ⟨tb1, tb2, tb3⟩ := hT.2.2.1 _ h3
  have hki := kx_inj tb1 (show 2 < 29 by decide)
  have e257 : (257 : Int32) = nI (kx 2) := rfl
  have i401 : ix (nI s.1) 401 := ix_nI (show s.1 < 401 by omega) (by decide)
  unfold fX2_acceptInt
  rw [h.2.1, if_pos i401, ldB_nI _ 6 _ (by omega)]
  simp only [lt_def]
  rw [xPeekN hT hX h, Option.bind_some, nI_l64 (show lo < 2 ^ 31 by omega), nI_l64 (show hi < 2 ^ 31 by omega), e257]
  by_cases c : tk s.1 = 2
  · have hv := tb3 c
    rw [(hX _ h3).2.2.1 c]
    have f1 := lgc_lt (lN (tv s.1)) (lN lo)
    have f2 := lgc_gt (lN (tv s.1)) (lN hi)
    rw [lN_lt (by omega) (by omega)] at f1 f2
    by_cases b : tv s.1 < lo ∨ hi < tv s.1
    · -- it does not fit
      obtain ⟨σ1, r1, r2, r3⟩ := xNoteN (e := 5) (by decide) (by decide) hsf hT hX h
      have hX1 := XTk_fr r2 hX (by decide) (by decide) (by decide)
      obtain ⟨σ2, s1, s2, s3⟩ := xAccN (k := 2) hT hX1 r3 (by decide) (by decide) (by decide)
      have ei : aInt tk tv lo hi s = aAcc tk 2 (aNote 5 s) := by unfold aInt; rw [if_pos ⟨c, b⟩]
      rw [ei]
      have body : ∃ σ' w, Option.bind (fX2_noteSense 5 σ) (fun q_17 => Option.bind (fX2_accept (nI (kx 2)) q_17) (fun q_13 => if (0 : Int32) = 0 then some (nI lo, q_13) else some ((lN (tv s.1)).toInt32, q_13))) = some (w, σ') ∧ fr [2, 3, 4, 5, 6] [] [] σ σ' ∧ XRs Q pl K al oT oP L (aAcc tk 2 (aNote 5 s)) σ' ∧ (tk s.1 = 2 → lo ≤ tv s.1 → tv s.1 ≤ hi → w = nI (tv s.1)) := by
        rw [show (5 : Int32) = nI 5 from rfl, r1, Option.bind_some, s1, Option.bind_some, if_pos rfl]
        exact ⟨σ2, nI lo, rfl, fr_tr (fr_up r2 (by decide) (by decide) (by decide)) (fr_up s2 (by decide) (by decide) (by decide)), s3, fun _ z1 z2 => by omega⟩
      by_cases b1 : tv s.1 < lo
      · rw [if_pos (f1.mpr b1), if_pos (hki.mpr c)]
        exact body
      · rw [if_neg (fun z => b1 (f1.mp z)), if_pos (f2.mpr (by omega)), if_pos (hki.mpr c)]
        exact body
    · obtain ⟨σ2, s1, s2, s3⟩ := xAccN (k := 2) hT hX h (by decide) (by decide) (by decide)
      have ei : aInt tk tv lo hi s = aAcc tk 2 s := by unfold aInt; rw [if_neg (fun z => b z.2)]
      rw [ei, if_neg (fun z => b (Or.inl (f1.mp z))), if_neg (fun z => b (Or.inr (f2.mp z))), Option.bind_some, if_pos (hki.mpr c)]
      simp only [if_neg one_ne]
      rw [s1, Option.bind_some]
      exact ⟨σ2, (lN (tv s.1)).toInt32, rfl, fr_up s2 (by decide) (by decide) (by decide), s3, fun _ _ _ => lN_i _⟩
  · obtain ⟨σ2, s1, s2, s3⟩ := xAccN (k := 2) hT hX h (by decide) (by decide) (by decide)
    have ei : aInt tk tv lo hi s = aAcc tk 2 s := by unfold aInt; rw [if_neg (fun z => c z.1)]
    have hc : ¬ nI (kx (tk s.1)) = nI (kx 2) := fun q => c (hki.mp q)
    rw [ei]
    have fin : ∀ w : Int32, ∃ σ' w', (some (w, σ2) : Option (Int32 × ST)) = some (w', σ') ∧ fr [2, 3, 4, 5, 6] [] [] σ σ' ∧ XRs Q pl K al oT oP L (aAcc tk 2 s) σ' ∧ (tk s.1 = 2 → lo ≤ tv s.1 → tv s.1 ≤ hi → w' = nI (tv s.1)) := fun w => ⟨σ2, w, rfl, fr_up s2 (by decide) (by decide) (by decide), s3, fun z => absurd z c⟩
    simp only [if_neg hc, s1, Option.bind_some, if_true, if_neg one_ne]
    split
    · exact fin _
    · split
      · exact fin _
      · exact fin _
theorem xIntF {pl : Nat → Nat} {K : Nat} {e : Nat × Nat} {σ : ST} (h : XFl pl K e σ) (x1 x2 : Int32) : ∃ w, fX2_acceptInt x1 x2 σ = some (w, σ) := by
  obtain ⟨t, t1, t2⟩ := h.2.2.2.1
  unfold fX2_acceptInt
  rw [t2, if_pos (ix_nI (show t < 401 by omega) (by decide))]
  simp only [lt_def]
  rw [xPeekF h, Option.bind_some]
  simp only [show ¬ (259 : Int32) = 257 by decide, if_false, xAccF h, Option.bind_some, if_true, if_neg one_ne]
  split
  · exact ⟨_, rfl⟩
  · split
    · exact ⟨_, rfl⟩
    · exact ⟨_, rfl⟩
/-- tables and parts of the step that is told -/
theorem xTabAny {σ : ST} {K c : Nat} (x1 x2 : Int32) (h7 : gI σ 7 = nI K) (hK : K < 7) (h9 : gI σ 9 = nI c) (hc : c ≤ 400) : ∃ σ', fX4_addTable x1 x2 σ = some σ' ∧ fr [9] [13, 15, 17, 18] [] σ σ' ∧ ∃ c', c' ≤ 400 ∧ gI σ' 9 = nI c' := by
  have i7 : ix (nI K) 7 := ix_nI hK (by decide)
  unfold fX4_addTable
  rw [h7, if_neg (show ¬ (7 : Int32) ≤ nI K from nI_ge hK (by decide)), if_pos i7, if_pos i7, stA_nI σ 13 K _ (by omega), lt_def, gI_sA, h7, if_pos i7, if_pos i7, stA_nI _ 15 K _ (by omega), lt_def]
  generalize hs1 : sA (sA σ 13 (upd (gA σ 13) K (ldA σ 13 (nI K) ||| 1 <<< (x2 &&& 31)))) 15 (upd (gA (sA σ 13 (upd (gA σ 13) K (ldA σ 13 (nI K) ||| 1 <<< (x2 &&& 31)))) 15) K (ldA (sA σ 13 (upd (gA σ 13) K (ldA σ 13 (nI K) ||| 1 <<< (x2 &&& 31)))) 15 (nI K) ||| 1 <<< (x2 &&& 31))) = σ1
  have f1 : fr [9] [13, 15, 17, 18] [] σ σ1 := by rw [← hs1]; exact fr_sA (fr_sA fr_rf (by decide)) (by decide)
  have g9 : gI σ1 9 = nI c := by rw [← hs1]; exact h9
  obtain ⟨σ', r1, r2, r3⟩ := xCodeAny x1 x2 g9 hc
  rw [r1, Option.bind_some]
  exact ⟨σ', rfl, fr_tr f1 (fr_up r2 (by decide) (by decide) (by decide)), r3⟩
theorem xTabN {Q : Prop} {pl : Nat → Nat} {K : Nat} {al oT oP : Nat → Nat} {L : Nat} {s : PS} {σ : ST} {k v : Nat} (hK : K < 7) (hv : v < 6) (hC : s.2.1.length < 400) (h : XS Q pl K al oT oP L s σ) : ∃ σ', fX4_addTable (xopOf k) (nI v) σ = some σ' ∧ fr [9] [13, 15, 17, 18] [] σ σ' ∧ XS Q pl K al oT oP L (aEm k v (aTab v s)) σ' := by
  obtain ⟨h1, h2, h3, h4, h5, h6, c, c1, c2, c3⟩ := id h
  have et : aTab v s = (s.1, s.2.1, s.2.2.1 ||| 2 ^ v, s.2.2.2) := by unfold aTab; rw [if_pos hv]
  rw [et]
  by_cases z : s.2.2.2.2.1 = 0
  · obtain ⟨d0, d1, d2, d3, d4, ⟨m, m1, m2, m3⟩, d6⟩ := c3 z
    have i7 : ix (nI K) 7 := ix_nI hK (by decide)
    unfold fX4_addTable
    rw [h6, if_neg (show ¬ (7 : Int32) ≤ nI K from nI_ge hK (by decide)), if_pos i7, if_pos i7, ldA_nI σ 13 K (by omega), d3, nI_shl1 (by omega), nI_or, stA_nI σ 13 K _ (by omega), lt_def, gI_sA, h6, if_pos i7, if_pos i7, ldA_nI _ 15 K (by omega), gA_sA, if_neg (show ¬ (15 = 13) by decide), m1, nI_or, stA_nI _ 15 K _ (by omega), lt_def, gA_sA, if_neg (show ¬ (15 = 13) by decide)]
    generalize hs1 : sA (sA σ 13 (upd (gA σ 13) K (nI (s.2.2.1 ||| 2 ^ v)))) 15 (upd (gA σ 15) K (nI (m ||| 2 ^ v))) = σ1
    have f1 : fr [9] [13, 15, 17, 18] [] σ σ1 := by rw [← hs1]; exact fr_sA (fr_sA fr_rf (by decide)) (by decide)
    have hS1 : XS Q pl K al oT oP L (s.1, s.2.1, s.2.2.1 ||| 2 ^ v, s.2.2.2) σ1 := by
      rw [← hs1]
      refine ⟨h1, h2, h3, h4, h5, h6, c, c1, c2, fun _ => ⟨d0, d1, d2, ?_, d4, ⟨m ||| 2 ^ v, ?_, ?_, fun x => ?_⟩, fun q hq => ?_⟩⟩
      · show upd (gA σ 13) K (nI (s.2.2.1 ||| 2 ^ v)) K = _
        rw [upd_at, if_pos rfl]
      · show upd (gA σ 15) K (nI (m ||| 2 ^ v)) K = _
        rw [upd_at, if_pos rfl]
      · exact or_lt (n := 6) m2 (Nat.pow_lt_pow_right (by decide) hv)
      · show (m ||| 2 ^ v).testBit x = true ↔ ((s.2.2.1 ||| 2 ^ v).testBit x = true ∨ _)
        rw [testBit_set, testBit_set, Bool.or_eq_true, Bool.or_eq_true, m3 x]
        constructor
        · rintro ((a | a) | a)
          · exact Or.inl (Or.inl a)
          · exact Or.inr a
          · exact Or.inl (Or.inr a)
        · rintro ((a | a) | a)
          · exact Or.inl (Or.inl a)
          · exact Or.inr a
          · exact Or.inl (Or.inr a)
      · show upd (gA σ 13) K (nI (s.2.2.1 ||| 2 ^ v)) q = _ ∧ gA σ 14 q = _ ∧ upd (gA σ 15) K (nI (m ||| 2 ^ v)) q = _
        rw [upd_at, upd_at, if_neg (by omega), if_neg (by omega)]
        exact d6 q hq
    obtain ⟨σ', r1, r2, r3⟩ := xCodeN (k := k) (v := v) (show (s.1, s.2.1, s.2.2.1 ||| 2 ^ v, s.2.2.2).2.1.length < 400 from hC) hS1
    rw [r1, Option.bind_some]
    exact ⟨σ', rfl, fr_tr f1 (fr_up r2 (by decide) (by decide) (by decide)), r3⟩
  · obtain ⟨σ', r1, r2, r3⟩ := xTabAny (xopOf k) (nI v) h6 hK c2 c1
    exact ⟨σ', r1, r2, XS_dirty h z rfl rfl (r2.1 2 (by decide)) (r2.1 4 (by decide)) (r2.1 5 (by decide)) (r2.1 6 (by decide)) (r2.1 7 (by decide)) r3⟩
theorem xPrtAny {σ : ST} {K c p : Nat} (h7 : gI σ 7 = nI K) (hK : K < 7) (hp : p < K) (h9 : gI σ 9 = nI c) (hc : c ≤ 400) : ∃ σ', fX4_addPart (nI p) σ = some σ' ∧ fr [9] [14, 15, 17, 18] [] σ σ' ∧ ∃ c', c' ≤ 400 ∧ gI σ' 9 = nI c' := by
  have i7 : ix (nI K) 7 := ix_nI hK (by decide)
  have p7 : ix (nI p) 7 := ix_nI (by omega) (by decide)
  unfold fX4_addPart
  rw [if_neg (nI_pos (by omega)), h7, if_neg (nI_ge hp (by omega)), if_neg (show ¬ (7 : Int32) ≤ nI K from nI_ge hK (by decide)), if_pos i7, if_pos i7, stA_nI σ 14 K _ (by omega), lt_def, gI_sA, h7, if_pos i7, if_pos p7, if_pos i7, stA_nI _ 15 K _ (by omega), lt_def]
  generalize hs1 : sA (sA σ 14 (upd (gA σ 14) K (ldA σ 14 (nI K) ||| 1 <<< (nI p &&& 31)))) 15 (upd (gA (sA σ 14 (upd (gA σ 14) K (ldA σ 14 (nI K) ||| 1 <<< (nI p &&& 31)))) 15) K (ldA (sA σ 14 (upd (gA σ 14) K (ldA σ 14 (nI K) ||| 1 <<< (nI p &&& 31)))) 15 (nI K) ||| ldA (sA σ 14 (upd (gA σ 14) K (ldA σ 14 (nI K) ||| 1 <<< (nI p &&& 31)))) 15 (nI p))) = σ1
  have f1 : fr [9] [14, 15, 17, 18] [] σ σ1 := by rw [← hs1]; exact fr_sA (fr_sA fr_rf (by decide)) (by decide)
  have g9 : gI σ1 9 = nI c := by rw [← hs1]; exact h9
  obtain ⟨σ', r1, r2, r3⟩ := xCodeAny 256 (nI p) g9 hc
  rw [r1, Option.bind_some]
  exact ⟨σ', rfl, fr_tr f1 (fr_up r2 (by decide) (by decide) (by decide)), r3⟩
theorem xPrtN {Q : Prop} {pl : Nat → Nat} {K : Nat} {al oT oP : Nat → Nat} {L : Nat} {s : PS} {σ : ST} {p : Nat} (hK : K < 7) (hp : p < K) (hal : al p < 64) (hC : s.2.1.length < 400) (h : XS Q pl K al oT oP L s σ) : ∃ σ', fX4_addPart (nI p) σ = some σ' ∧ fr [9] [14, 15, 17, 18] [] σ σ' ∧ XS Q pl K al oT oP L (aEm 4 p (aPrt p s)) σ' := by
  obtain ⟨h1, h2, h3, h4, h5, h6, c, c1, c2, c3⟩ := id h
  by_cases z : s.2.2.2.2.1 = 0
  · obtain ⟨d0, d1, d2, d3, d4, ⟨m, m1, m2, m3⟩, d6⟩ := c3 z
    have i7 : ix (nI K) 7 := ix_nI hK (by decide)
    have p7 : ix (nI p) 7 := ix_nI (by omega) (by decide)
    unfold fX4_addPart
    rw [if_neg (nI_pos (by omega)), h6, if_neg (nI_ge hp (by omega)), if_neg (show ¬ (7 : Int32) ≤ nI K from nI_ge hK (by decide)), if_pos i7, if_pos i7, ldA_nI σ 14 K (by omega), d4, nI_shl1 (by omega), nI_or, stA_nI σ 14 K _ (by omega), lt_def, gI_sA, h6, if_pos i7, if_pos p7, if_pos i7, ldA_nI _ 15 K (by omega), ldA_nI _ 15 p (by omega), gA_sA, if_neg (show ¬ (15 = 14) by decide), m1, (d6 p hp).2.2, nI_or, stA_nI _ 15 K _ (by omega), lt_def, gA_sA, if_neg (show ¬ (15 = 14) by decide)]
    generalize hs1 : sA (sA σ 14 (upd (gA σ 14) K (nI (s.2.2.2.1 ||| 2 ^ p)))) 15 (upd (gA σ 15) K (nI (m ||| al p))) = σ1
    have f1 : fr [9] [14, 15, 17, 18] [] σ σ1 := by rw [← hs1]; exact fr_sA (fr_sA fr_rf (by decide)) (by decide)
    have hS1 : XS Q pl K al oT oP L (aPrt p s) σ1 := by
      rw [← hs1]
      refine ⟨h1, h2, h3, h4, h5, h6, c, c1, c2, fun _ => ⟨d0, d1, d2, d3, ?_, ⟨m ||| al p, ?_, ?_, fun x => ?_⟩, fun q hq => ?_⟩⟩
      · show upd (gA σ 14) K (nI (s.2.2.2.1 ||| 2 ^ p)) K = _
        rw [upd_at, if_pos rfl]; rfl
      · show upd (gA σ 15) K (nI (m ||| al p)) K = _
        rw [upd_at, if_pos rfl]
      · exact or_lt (n := 6) m2 hal
      · show (m ||| al p).testBit x = true ↔ (s.2.2.1.testBit x = true ∨ ∃ j, (s.2.2.2.1 ||| 2 ^ p).testBit j = true ∧ (al j).testBit x = true)
        rw [Nat.testBit_or, Bool.or_eq_true, m3 x]
        constructor
        · rintro ((a | ⟨j, j1, j2⟩) | a)
          · exact Or.inl a
          · exact Or.inr ⟨j, by rw [testBit_set, j1]; rfl, j2⟩
          · exact Or.inr ⟨p, by rw [testBit_set]; simp, a⟩
        · rintro (a | ⟨j, j1, j2⟩)
          · exact Or.inl (Or.inl a)
          · rw [testBit_set, Bool.or_eq_true] at j1
            rcases j1 with y | y
            · exact Or.inl (Or.inr ⟨j, y, j2⟩)
            · have : p = j := of_decide_eq_true y
              subst this; exact Or.inr j2
      · show gA σ 13 q = _ ∧ upd (gA σ 14) K (nI (s.2.2.2.1 ||| 2 ^ p)) q = _ ∧ upd (gA σ 15) K (nI (m ||| al p)) q = _
        rw [upd_at, upd_at, if_neg (by omega), if_neg (by omega)]
        exact d6 q hq
    obtain ⟨σ', r1, r2, r3⟩ := xCodeN (k := 4) (v := p) (show (aPrt p s).2.1.length < 400 from hC) hS1
    have e4 : fX4_addCode (xopOf 4) (nI p) σ1 = fX4_addCode 256 (nI p) σ1 := rfl
    rw [e4] at r1
    rw [r1, Option.bind_some]
    exact ⟨σ', rfl, fr_tr f1 (fr_up r2 (by decide) (by decide) (by decide)), r3⟩
  · obtain ⟨σ', r1, r2, r3⟩ := xPrtAny h6 hK hp c2 c1
    exact ⟨σ', r1, r2, XS_dirty h z rfl rfl (r2.1 2 (by decide)) (r2.1 4 (by decide)) (r2.1 5 (by decide)) (r2.1 6 (by decide)) (r2.1 7 (by decide)) r3⟩
