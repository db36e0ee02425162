/-! ===== PURE: the class finds the best queue ===== -/
def BInv (a : AS) (q : List Nat) (B : Nat) (b : List Nat) : Prop := (∀ p, QL a p → lexLt p q → B ≤ CL a p ∧ (CL a p = B → lexLe b p)) ∧ (B = 280001 ∨ (lexLt b q ∧ QL a b ∧ CL a b = B))
def Best (a : AS) (B : Nat) (b : List Nat) : Prop := QL a b ∧ CL a b = B ∧ ∀ p, QL a p → B ≤ CL a p ∧ (CL a p = B → lexLe b p)
theorem fac_le : ∀ n, n < 8 → facN n ≤ 5040 := by decide
theorem CL_le {a : AS} {l : List Nat} (hB : wfBg 0 0 a) (hl : inK a l) : CL a l ≤ 280000 := late_le (hs_of hB) (wt100 hB) (RI_run (hs_of hB) hl _ (Nat.le_refl _))
theorem keep_at (σ : ST) (i : Nat) (hi : i < 7) : va_cpy (gA σ 63) (gA σ 64) ((0 : Int32)).toNatClampNeg ((0 : Int32)).toNatClampNeg ((7 : Int32)).toNatClampNeg i = gA σ 63 i := by
  have e0 : ((0 : Int32)).toNatClampNeg = 0 := by decide
  have e7 : ((7 : Int32)).toNatClampNeg = 7 := by decide
  rw [e0, e7]
  unfold va_cpy
  rw [if_pos (by omega), Nat.sub_zero, Nat.zero_add]
theorem sameHd_rf : ∀ d (l : List Nat), sameHd d l l := by
  intro d
  induction d with
  | zero => intro l; trivial
  | succ d ih =>
    intro l
    cases l with
    | nil => trivial
    | cons x xs => exact ⟨rfl, ih xs⟩
theorem xFindL {a : AS} (hA : wfA 600 a) (hB : wfBg 0 0 a) (k82 : Int32 → ST → Option (Int32 × ST)) : ∀ r n q B b x3 σ, 5040 ≤ x3 + r → x3 ≤ rkL q → r + 2000 < n → XR a σ → XO a σ → XQ q σ → QL a q → B ≤ 280001 → BInv a q B b → (B ≠ 280001 → ∀ i, i < b.length → gA σ 64 i = nI (b.getD i 0)) →
    ∃ σ' B' b', fX1_findBest_L22 k82 n (nI B) 1 (nI x3) σ = k82 (nI B') σ' ∧ fr [23, 24, 26, 27] [61, 62, 63, 64] [] σ σ' ∧ B' ≤ 280000 ∧ Best a B' b' ∧ ∀ i, i < b'.length → gA σ' 64 i = nI (b'.getD i 0) := by
  have hK := hB.1.1
  have hs := hs_of hB
  intro r
  induction r with
  | zero =>
    intro n q B b x3 σ hr hx hn hX hO hQ hL hBd hI h64
    have h1 := rkL_lt q
    have h2 := fac_le q.length (by have := q_len7 hL hK; omega)
    omega
  | succ r ih =>
    intro n q B b x3 σ hr hx hn hX hO hQ hL hBd hI h64
    obtain ⟨m, rfl⟩ : ∃ m, n = m + 1 := ⟨n - 1, by omega⟩
    have h1 := rkL_lt q
    have h2 := fac_le q.length (by have := q_len7 hL hK; omega)
    obtain ⟨σ1, d, s, r1, r2, r3, r4, r5, r6, r7, r8⟩ := xAhead (n := m) (B := B) (by omega) hA hB hX hO hQ hL (by omega)
    have hX1 := XR_fo (fr_up r2 (by decide) (by decide) (by decide)) hX
    have hO1 := XO_fr r2 hO (by decide) (by decide) (by decide)
    have hQ1 := XQ_fr r2 hQ (by decide) (by decide)
    have key : ∀ (B' : Nat) (b' : List Nat) (σ2 : ST), fr [] [64] [] σ1 σ2 → B' ≤ 280000 → QL a b' → CL a b' = B' → lexLe b' q → (∀ i, i < b'.length → gA σ2 64 i = nI (b'.getD i 0)) → (∀ p, QL a p → (lexLt p q ∨ p = q ∨ (lexLt q p ∧ sameHd d p q)) → B' ≤ CL a p ∧ (CL a p = B' → lexLe b' p)) →
        ∃ σ' B'' b'', (if nI B' ≤ gI σ2 25 then fX1_findBest_L22 k82 m (nI B') 0 (nI x3 + 1) σ2 else Option.bind (fX1_nextQueue m σ2) (fun q_15 => if q_15.1 = 0 then fX1_findBest_L22 k82 m (nI B') 0 (nI x3 + 1) q_15.2 else fX1_findBest_L22 k82 m (nI B') 1 (nI x3 + 1) q_15.2)) = k82 (nI B'') σ' ∧ fr [23, 24, 26, 27] [61, 62, 63, 64] [] σ σ' ∧ B'' ≤ 280000 ∧ Best a B'' b'' ∧ ∀ i, i < b''.length → gA σ' 64 i = nI (b''.getD i 0) := by
      intro B' b' σ2 f2 hB' hLb hCb hle h64' hP
      have hX2 := XR_fo (fr_up f2 (by decide) (by decide) (by decide)) hX1
      have hO2 := XO_fr f2 hO1 (by decide) (by decide) (by decide)
      have hQ2 := XQ_fr f2 hQ1 (by decide) (by decide)
      have fT : fr [23, 24, 26, 27] [61, 62, 63, 64] [] σ σ2 := fr_tr (fr_up r2 (by decide) (by decide) (by decide)) (fr_up f2 (by decide) (by decide) (by decide))
      have stop : ∀ σ3, fX1_findBest_L22 k82 m (nI B') 0 (nI x3 + 1) σ3 = k82 (nI B') σ3 := by
        intro σ3
        obtain ⟨m', rfl⟩ : ∃ m', m = m' + 1 := ⟨m - 1, by omega⟩
        rw [fX1_findBest_L22]
        by_cases z : (5040 : Int32) ≤ nI x3 + 1
        · rw [if_pos z]
        · rw [if_neg z, if_pos rfl]
      have hfl : floA a ≤ 280000 := Nat.le_trans (floA_le hs (q_in hL)) (CL_le hB (q_in hL))
      rw [hO2.2]
      by_cases c : B' ≤ floA a
      · rw [if_pos (nI_le c (by omega)), stop]
        refine ⟨σ2, B', b', rfl, fT, hB', ⟨hLb, hCb, fun p hp => ?_⟩, h64'⟩
        rcases lexLt_tot p q with z | z | z
        · exact hP p hp (Or.inr (Or.inl z))
        · exact hP p hp (Or.inl z)
        · exact ⟨Nat.le_trans c (floA_le hs (q_in hp)), fun _ => Or.inr (lexLe_lt hle z)⟩
      · rw [if_neg (nI_ge (by omega) (by omega))]
        have hXL : XL q σ2 := ⟨hQ2.1, hQ2.2, q_len7 hL hK, fun i hi => by have := q_in hL _ (getD_mem hi); omega⟩
        have h27 : gI σ2 27 = nI d := by rw [f2.1 27 (by decide)]; exact r5
        have hnq : fX1_nextQueue m σ2 = fX1_nextQueue_L7 (fun (x1_7 : Int32) (x2_8 : Int32) (σ_9 : ST) => (if ix x1_7 7 then (lt (ldA σ_9 63 x1_7) (fun x3_11 => (if ix x2_8 7 then (if ix x1_7 7 then (lt (stA σ_9 63 x1_7 (ldA σ_9 63 x2_8)) (fun σ_14 => (if ix x2_8 7 then (lt (stA σ_14 63 x2_8 x3_11) (fun σ_16 => (Option.bind (fX1_sortBehind m x1_7 σ_16) (fun q_17 => (some ((1 : Int32), q_17)))))) else none))) else none) else none))) else none)) m (nI d - 1) σ2 := by
          unfold fX1_nextQueue
          rw [lt_def, h27]
        rw [hnq]
        rcases xNextL (D := d) hXL (q_nd hL) r6 m (by omega) d m (Nat.le_refl _) (by omega) (fun p j p1 p2 => by omega) with ⟨n1, n2⟩ | ⟨q', σ3, n1, n2, n3, n4, n5⟩
        · rw [n2, Option.bind_some, if_pos rfl, stop]
          refine ⟨σ2, B', b', rfl, fT, hB', ⟨hLb, hCb, fun p hp => ?_⟩, h64'⟩
          rcases lexLt_tot p q with z | z | z
          · exact hP p hp (Or.inr (Or.inl z))
          · exact hP p hp (Or.inl z)
          · exact hP p hp (Or.inr (Or.inr ⟨z, noNext_sp n1 (hp.trans hL.symm) z⟩))
        · rw [n5, Option.bind_some, if_neg one_ne, nI_1]
          have hL' : QL a q' := n2.trans hL
          have hlt := nextOf_lt n1
          have hInv : BInv a q' B' b' := by
            refine ⟨fun p hp hpq => ?_, Or.inr ⟨lexLe_lt hle hlt, hLb, hCb⟩⟩
            rcases lexLt_tot p q with z | z | z
            · exact hP p hp (Or.inr (Or.inl z))
            · exact hP p hp (Or.inl z)
            · rcases nextOf_sp n1 n2 (hp.trans hL.symm) z with y | y
              · exact hP p hp (Or.inr (Or.inr ⟨z, y⟩))
              · exact absurd (lexLe_lt y hpq) (lexLt_irr _)
          obtain ⟨σ', B'', b'', s1, s2, s3⟩ := ih m q' B' b' (x3 + 1) σ3 (by omega) (by have := rkL_mono n2.symm hlt; omega) (by omega) (XR_fo (fr_up n4 (by decide) (by decide) (by decide)) hX2) (XO_fr n4 hO2 (by decide) (by decide) (by decide)) ⟨n3.1, n3.2.1⟩ hL' (by omega) hInv (fun _ i hi => by rw [n4.2.1 64 (by decide)]; exact h64' i hi)
          exact ⟨σ', B'', b'', s1, fr_tr fT (fr_tr (fr_up n4 (by decide) (by decide) (by decide)) s2), s3⟩
    rw [fX1_findBest_L22, if_neg (show ¬ (5040 : Int32) ≤ nI x3 from nI_ge (show x3 < 5040 by omega) (by decide)), if_neg one_ne, r1, Option.bind_some]
    simp only [lt_def]
    rw [r4]
    by_cases c : B ≤ lateS a s
    · rw [if_pos (nI_le c (by omega))]
      have hne : B ≠ 280001 := by omega
      obtain ⟨i1, i2⟩ := hI
      obtain ⟨b1, b2, b3⟩ := i2.resolve_left hne
      refine key B b σ1 fr_rf (by omega) b2 b3 (Or.inr b1) (fun i hi => by rw [r2.2.1 64 (by decide)]; exact h64 hne i hi) (fun p hp hcase => ?_)
      rcases hcase with z | z | ⟨z, z2⟩
      · exact i1 p hp z
      · subst z
        refine ⟨?_, fun _ => Or.inr b1⟩
        rcases r8 with ⟨e, -⟩ | ⟨-, e⟩
        · have : lateS a s = CL a p := by rw [e]; rfl
          omega
        · exact e p (List.Perm.refl _) (sameHd_rf d p)
      · refine ⟨?_, fun _ => Or.inr (lexLt_tr b1 z)⟩
        rcases r8 with ⟨e, e2⟩ | ⟨-, e⟩
        · have : lateS a s = CL a q := by rw [e]; rfl
          rw [e2 p (hp.trans hL.symm) z2]; omega
        · exact e p (hp.trans hL.symm) z2
    · rw [if_neg (nI_ge (by omega) (by omega))]
      have hF : s = finS a q ∧ ∀ l', l'.Perm q → sameHd d l' q → CL a l' = CL a q := by
        rcases r8 with e | ⟨e, -⟩
        · exact e
        · exact absurd e c
      have hc : lateS a s = CL a q := by rw [hF.1]; rfl
      unfold fX1_keepBest
      rw [lt_def, Option.bind_some]
      refine key (lateS a s) q _ (fr_sA fr_rf (by decide)) r7 hL hc.symm (Or.inl rfl) (fun i hi => ?_) (fun p hp hcase => ?_)
      · show va_cpy (gA σ1 63) (gA σ1 64) ((0 : Int32)).toNatClampNeg ((0 : Int32)).toNatClampNeg ((7 : Int32)).toNatClampNeg i = _
        rw [keep_at σ1 i (by have := q_len7 hL hK; omega)]
        exact hQ1.2 i hi
      · rcases hcase with z | z | ⟨z, z2⟩
        · have := (hI.1 p hp z).1
          exact ⟨by omega, fun e => by omega⟩
        · subst z
          exact ⟨by omega, fun _ => Or.inl rfl⟩
        · have := hF.2 p (hp.trans hL.symm) z2
          exact ⟨by omega, fun _ => Or.inr z⟩
theorem qByN_sorted (a : AS) : (qByN a).Pairwise (· ≤ ·) := by
  unfold qByN
  refine List.Pairwise.filter _ ?_
  exact (List.pairwise_lt_range (n := cS a 1)).imp (fun h => Nat.le_of_lt h)
theorem mrg_rng {a : AS} {b : List Nat} (hL : QL a b) : (mrg (idl a 0 (cS a 1)) b).Perm (List.range (cS a 1)) ∧ (mrg (idl a 0 (cS a 1)) b).filter (waitB a) = b := by
  constructor
  · refine (mrg_perm _ _).trans ?_
    refine (List.Perm.append_left _ hL).trans ?_
    rw [idl_eq, ← List.range_eq_range']
    unfold qByN
    have := List.filter_append_perm (fun k => !waitB a k) (List.range (cS a 1))
    simp only [Bool.not_not] at this
    exact this
  · exact mrg_filter _ _ (fun k hk => (idl_mem hk).1) (fun k hk => ((q_mem hL).mp hk).2)
theorem xPlan {a : AS} {n : Nat} {σ : ST} (hn : 10000 ≤ n) (hA : wfA 600 a) (hB : wfBg 0 0 a) (hX : XR a σ) : ∃ σ' B b, fX10_plan n σ = some (nI B, σ') ∧ fr [22, 23, 24, 25, 26, 27] [54, 59, 60, 61, 62, 63, 64] [] σ σ' ∧ Best a B b ∧ (∀ p, p < cS a 1 → gA σ' 54 p = nI ((mrg (idl a 0 (cS a 1)) b).getD p 0)) ∧ (∀ p, cS a 1 ≤ p → gA σ' 54 p = gA σ 54 p) := by
  have hK := hB.1.1
  obtain ⟨σ1, r1, r2, r3, r4⟩ := xReck35 (n := n) (by omega) hA hB hX
  have hX1 := XR_fo (fr_up r2 (by decide) (by decide) (by decide)) hX
  have hO1 : XO a σ1 := ⟨r3, r4⟩
  have f0 : fr [22] [63] [] σ1 (sI σ1 22 0) := fr_sI fr_rf (by decide)
  obtain ⟨σ2, s1, s2, s3⟩ := xQbNL hB (cS a 1) 0 n (sI σ1 22 0) (by omega) (by omega) (XR_fo (fr_up f0 (by decide) (by decide) (by decide)) hX1) ⟨rfl, fun i hi => absurd hi (Nat.not_lt_zero i)⟩
  have f2 : fr [22] [63] [] σ1 σ2 := fr_tr f0 s2
  have hX2 := XR_fo (fr_up f2 (by decide) (by decide) (by decide)) hX1
  have hO2 := XO_fr f2 hO1 (by decide) (by decide) (by decide)
  have hL : QL a (qByN a) := List.Perm.refl _
  obtain ⟨σ3, B, b, t1, t2, t3, t4, t5⟩ := xFindL hA hB (fun (x1_24 : Int32) (σ_25 : ST) => (Option.bind (fX1_orderByBest n σ_25) (fun q_26 => (some (x1_24, q_26))))) 5040 n (qByN a) 280001 [] 0 σ2 (by omega) (Nat.zero_le _) (by omega) hX2 hO2 s3 hL (Nat.le_refl _) ⟨fun p hp hlt => by
      rcases sorted_le (qByN_sorted a) hp with z | z
      · rw [z] at hlt; exact absurd hlt (lexLt_irr _)
      · exact absurd (lexLt_tr hlt z) (lexLt_irr _), Or.inl rfl⟩ (fun h => absurd rfl h)
  have hX3 := XR_fo (fr_up t2 (by decide) (by decide) (by decide)) hX2
  have hR := mrg_rng t4.1
  have hlen : (mrg (idl a 0 (cS a 1)) b).length = cS a 1 := by rw [hR.1.length_eq, List.length_range]
  obtain ⟨σ4, u1, u2, u3, u4⟩ := xOrder (n := n) (by omega) hB hX3 t4.1 (by rw [t2.1 22 (by decide), s3.1, q_len t4.1]) t5 hlen
  have fA : fr [22, 23, 24, 25, 26, 27] [54, 59, 60, 61, 62, 63, 64] [] σ σ3 := fr_tr (fr_up r2 (by decide) (by decide) (by decide)) (fr_tr (fr_up f2 (by decide) (by decide) (by decide)) (fr_up t2 (by decide) (by decide) (by decide)))
  have g54 : gA σ3 54 = gA σ 54 := by rw [t2.2.1 54 (by decide), f2.2.1 54 (by decide), r2.2.1 54 (by decide)]
  refine ⟨σ4, B, b, ?_, fr_tr fA (fr_up u2 (by decide) (by decide) (by decide)), t4, u3, fun p hp => by rw [u4 p hp, g54]⟩
  have hq : fX1_queueByNumbers n σ1 = some σ2 := s1
  unfold fX10_plan fX1_findBest
  rw [r1, Option.bind_some, hq, Option.bind_some]
  simp only [lt_def]
  have t1' : fX1_findBest_L22 (fun (x1_24 : Int32) (σ_25 : ST) => (Option.bind (fX1_orderByBest n σ_25) (fun q_26 => (some (x1_24, q_26))))) n 280001 1 0 σ2 = Option.bind (fX1_orderByBest n σ3) (fun q_26 => (some (nI B, q_26))) := t1
  rw [t1', u1]
  rfl
