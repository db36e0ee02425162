/-! ===== PURE: span, reader, rights, order, reads, hosts ===== -/
theorem sim_span (x y z : Int32) : SimStep Rel0 (fX10_span x y z) (fX11_span x y z) := by
  intro t σ τ ht hR
  obtain ⟨a, hA, hB, hC, hD, hX, hM, hk⟩ := id hR
  unfold fX10_span fX11_span
  rcases ix_or (x := x) (n := 6) (by decide) with h | ⟨j, hj, rfl⟩
  · rw [xBelow_no (y := 6) (n := 6) rfl h, mTable_no h]
    simp only [Option.bind_some, if_true]
    exact ⟨0, σ, τ, rfl, rfl, rel_same hR⟩
  · rw [xBelow_yes (y := 6) (n := 6) rfl hj (by decide), mTable_yes hj]
    simp only [Option.bind_some, if_neg one_ne]
    by_cases h0 : y < 0
    · rw [if_pos h0, if_pos h0]; exact ⟨0, σ, τ, rfl, rfl, rel_same hR⟩
    · rw [if_neg h0, if_neg h0]
      by_cases h1 : z < y
      · rw [if_pos h1, if_pos h1]; exact ⟨0, σ, τ, rfl, rfl, rel_same hR⟩
      · rw [if_neg h1, if_neg h1]
        by_cases h2 : z ≤ 399
        · rw [if_pos h2, if_pos h2, if_pos (ix_nI hj (by decide)), if_pos (ix_nI hj (by decide))]
          simp only [lt_def]
          rw [if_pos (ix_nI hj (by decide)), if_pos (ix_nI hj (by decide))]
          have hz0 : ¬ z < 0 := fun q => by
            rw [Int32.lt_iff_toInt_lt] at h0 h1 q
            simp at h0 q
            omega
          obtain ⟨q, hq, rfl⟩ := nI_of2 (n := 399) (by decide) hz0 h2
          obtain ⟨p, hp, rfl⟩ := nI_of2 (n := q) (nI_toInt (by omega)) h0 (Int32.not_lt.mp h1)
          rw [stA_nI _ _ _ _ (by omega), stA_nI _ _ _ _ (by omega), stA_nI _ _ _ _ (by omega), stA_nI _ _ _ _ (by omega)]
          refine ⟨1, _, _, rfl, rfl, tN (tN a 9 (uN (cN a 9) j p)) 10 (uN (cN a 10) j q), ?_, hB, wfC_mono hC, hD, ?_, ?_, hk⟩
          · refine ⟨hA.1, fun x hx => ?_, (wfA_mono hA).2.2⟩
            have h9 := hA.2.1 x hx
            simp only [cN_tN]
            simp only [Nat.reduceEqDiff, if_true, if_false, uN_at]
            constructor
            · split <;> omega
            · split <;> omega
          · refine ⟨hX.1, hX.2.1, fun x hx => ?_, hX.2.2.2⟩
            have h9 := hX.2.2.1 x hx
            simp only [cN_tN, gA_sA, Nat.reduceEqDiff, if_true, if_false, uN_at, upd_at]
            constructor
            · split
              · rfl
              · exact h9.1
            · split
              · rfl
              · exact h9.2
          · refine ⟨hM.1, hM.2.1, fun x hx => ?_, hM.2.2.2⟩
            have h9 := hM.2.2.1 x hx
            simp only [cN_tN, gA_sA, Nat.reduceEqDiff, if_true, if_false, uN_at, upd_at]
            constructor
            · split
              · rfl
              · exact h9.1
            · split
              · rfl
              · exact h9.2
        · rw [if_neg h2, if_neg h2]; exact ⟨0, σ, τ, rfl, rfl, rel_same hR⟩
theorem sim_order (x : Int32) : SimStep Rel0 (fX10_order x) (fX11_order x) := by
  intro t σ τ ht hR
  obtain ⟨a, hA, hB, hC, hD, hX, hM, hk⟩ := id hR
  have hK : cS a 1 ≤ 7 := hB.1.1
  obtain ⟨v, hv, m1, m2, -⟩ := hM.2.2.2.2.2.1
  have x1 : gI σ 10 = nI (cS a 1) := hX.2.2.2.2.2.1.1
  unfold fX10_order fX11_order
  rcases ix_or (x := x) (n := cS a 1) (by omega) with h | ⟨j, hj, rfl⟩
  · rw [xStep_no hX h]
    simp only [Option.bind_some, if_true]
    refine ⟨-1, σ, τ, rfl, ?_, rel_same hR⟩
    by_cases h0 : x < 0
    · rw [if_pos h0]
    · rw [if_neg h0, m1, if_pos (ix_nI hv (by decide)), ldA_nI _ _ _ (by omega), m2, if_pos (h.resolve_left h0)]
  · rw [xStep_yes x1 hK hj]
    simp only [Option.bind_some, if_neg one_ne]
    rw [if_pos (ix_nI (by omega) (by decide)), ldA_nI _ _ _ (by omega), if_neg (nI_pos (by omega)), m1, if_pos (ix_nI hv (by decide)), ldA_nI _ _ _ (by omega), m2, if_neg (nI_ge hj (by omega)), if_pos (ix_nI (by omega) (by decide)), ldA_nI _ _ _ (by omega)]
    refine ⟨nI (cN a 13 j), σ, τ, ?_, ?_, rel_same hR⟩
    · rw [hX.2.2.2.2.2.2.1.2.2.2.2.2.1 j (by omega)]
    · rw [hM.2.2.2.2.2.2.1.2.2.2.1 j (by omega)]
theorem sim_rights (x y : Int32) : SimStep Rel0 (fX10_rights x y) (fX11_rights x y) := by
  intro t σ τ ht hR
  obtain ⟨a, hA, hB, hC, hD, hX, hM, hk⟩ := id hR
  have hn : cS a 2 ≤ 6 := hA.2.2.2.1
  have x1 : gI σ 15 = nI (cS a 2) := hX.2.2.2.2.1.1
  have m1 : gI τ 17 = nI (cS a 2) := hM.2.2.2.2.1.1
  unfold fX10_rights fX11_rights
  rcases ix_or (x := x) (n := cS a 2) (by omega) with h | ⟨j, hj, rfl⟩
  · rw [xReader_no x1 h, mReader_no m1 h]
    simp only [Option.bind_some, if_true]
    exact ⟨0, σ, τ, rfl, rfl, rel_same hR⟩
  · rw [xReader_yes x1 hn hj, mReader_yes m1 hn hj]
    simp only [Option.bind_some, if_neg one_ne]
    by_cases h0 : y < 0
    · rw [if_pos h0, if_pos h0]; exact ⟨0, σ, τ, rfl, rfl, rel_same hR⟩
    · rw [if_neg h0, if_neg h0]
      by_cases h2 : y ≤ 255
      · rw [if_pos h2, if_pos h2, if_pos (ix_nI (by omega) (by decide)), if_pos (ix_nI (by omega) (by decide))]
        simp only [lt_def]
        obtain ⟨p, hp, rfl⟩ := nI_of2 (n := 255) (by decide) h0 h2
        rw [stA_nI _ _ _ _ (by omega), stA_nI _ _ _ _ (by omega)]
        refine ⟨1, _, _, rfl, rfl, tN a 11 (uN (cN a 11) j p), ?_, hB, wfC_mono hC, hD, ?_, ?_, hk⟩
        · refine ⟨hA.1, hA.2.1, (wfA_mono hA).2.2.1, hA.2.2.2.1, hA.2.2.2.2.1, fun r hr => ?_⟩
          have h9 := hA.2.2.2.2.2 r hr
          simp only [cN_tN, if_true, uN_at]
          split <;> omega
        · refine ⟨hX.1, hX.2.1, hX.2.2.1, hX.2.2.2.1, ⟨x1, hX.2.2.2.2.1.2.1, fun r hr => ?_⟩, hX.2.2.2.2.2⟩
          have h9 := hX.2.2.2.2.1.2.2 r hr
          simp only [cN_tN, gA_sA, if_true, uN_at, upd_at]
          split
          · rfl
          · exact h9
        · refine ⟨hM.1, hM.2.1, hM.2.2.1, hM.2.2.2.1, ⟨m1, fun r hr => ?_⟩, hM.2.2.2.2.2⟩
          have h9 := hM.2.2.2.2.1.2 r hr
          refine ⟨?_, h9.2⟩
          simp only [cN_tN, gA_sA, if_true, uN_at, upd_at]
          split
          · rfl
          · exact h9.1
      · rw [if_neg h2, if_neg h2]; exact ⟨0, σ, τ, rfl, rfl, rel_same hR⟩
theorem pow_le_64 {n : Nat} (h : n ≤ 6) : 2 ^ n ≤ 64 := by
  have : 2 ^ n ≤ 2 ^ 6 := Nat.pow_le_pow_right (by decide) h
  omega
theorem sim_reader (y : Int32) : SimStep Rel0 (fX10_reader y) (fX11_reader y) := by
  intro t σ τ ht hR
  obtain ⟨a, hA, hB, hC, hD, hX, hM, hk⟩ := id hR
  have hn : cS a 2 ≤ 6 := hA.2.2.2.1
  have x1 : gI σ 15 = nI (cS a 2) := hX.2.2.2.2.1.1
  have m1 : gI τ 17 = nI (cS a 2) := hM.2.2.2.2.1.1
  unfold fX10_reader fX11_reader
  rw [x1, m1, show (6 : Int32) = nI 6 from rfl]
  rcases Nat.lt_or_ge (cS a 2) 6 with hlt | hge
  · have hne : ¬ nI (cS a 2) = nI 6 := fun q => by rw [nI_eq (by omega) (by decide)] at q; omega
    rw [if_neg (nI_ge hlt (by decide)), if_neg hne]
    by_cases h0 : y < 0
    · rw [if_pos h0, if_pos h0]; exact ⟨-1, σ, τ, rfl, rfl, rel_same hR⟩
    · rw [if_neg h0, if_neg h0]
      by_cases h2 : y ≤ 255
      · obtain ⟨p, hp, rfl⟩ := nI_of2 (n := 255) (by decide) h0 h2
        rw [if_pos h2, if_pos h2, if_pos (ix_nI hlt (by decide))]
        unfold fX3_addReader
        simp only [lt_def]
        rw [x1, show (6 : Int32) = nI 6 from rfl, if_neg (nI_ge hlt (by decide)), if_pos (ix_nI hlt (by decide)), stA_nI _ _ _ _ (by omega), stA_nI _ _ _ _ (by omega)]
        simp only [gI_sA, gI_sI, m1, x1, Option.bind_some, if_true]
        rw [if_pos (ix_nI hlt (by decide)), stA_nI _ _ _ _ (by omega)]
        simp only [gI_sA, m1]
        rw [nI_1, nI_pred]
        refine ⟨nI (cS a 2), _, _, rfl, rfl, tS (tN a 11 (uN (cN a 11) (cS a 2) p)) 2 (cS a 2 + 1), ?_, hB, ?_, hD, ?_, ?_, hk⟩
        · refine ⟨hA.1, hA.2.1, (wfA_mono hA).2.2.1, ?_, ?_, fun r hr => ?_⟩
          · show cS a 2 + 1 ≤ 6; omega
          · show cS a 7 < 2 ^ (cS a 2 + 1)
            have := hA.2.2.2.2.1
            rw [Nat.pow_succ]; omega
          · have hr : r < cS a 2 + 1 := hr
            show uN (cN a 11) (cS a 2) p r < 256
            rw [uN_at]
            split
            · omega
            · exact hA.2.2.2.2.2 r (by omega)
        · refine ⟨fun k hk => ⟨?_, (hC.1 k hk).2⟩, (wfC_mono hC).2⟩
          show cN a 17 k < 2 ^ (cS a 2 + 1)
          have := (hC.1 k hk).1
          rw [Nat.pow_succ]; omega
        · refine ⟨hX.1, hX.2.1, hX.2.2.1, hX.2.2.2.1, ⟨rfl, hX.2.2.2.2.1.2.1, fun r hr => ?_⟩, hX.2.2.2.2.2⟩
          have hr : r < cS a 2 + 1 := hr
          show upd (gA σ 48) (cS a 2) (nI p) r = nI (uN (cN a 11) (cS a 2) p r)
          rw [upd_at, uN_at]
          split
          · rfl
          · exact hX.2.2.2.2.1.2.2 r (by omega)
        · refine ⟨hM.1, hM.2.1, hM.2.2.1, hM.2.2.2.1, ⟨rfl, fun r hr => ?_⟩, hM.2.2.2.2.2⟩
          have hr : r < cS a 2 + 1 := hr
          show upd (gA τ 31) (cS a 2) (nI p) r = nI (uN (cN a 11) (cS a 2) p r) ∧ upd (gA τ 32) (cS a 2) (nz 0) r = if (cS a 7).testBit r then 1 else 0
          rw [upd_at, uN_at, upd_at]
          by_cases e : r = cS a 2
          · rw [if_pos e, if_pos e, if_pos e]
            refine ⟨rfl, ?_⟩
            rw [e, Nat.testBit_lt_two_pow hA.2.2.2.2.1]
            rfl
          · rw [if_neg e, if_neg e, if_neg e]
            exact hM.2.2.2.2.1.2 r (by omega)
      · rw [if_neg h2, if_neg h2]; exact ⟨-1, σ, τ, rfl, rfl, rel_same hR⟩
  · have e6 : cS a 2 = 6 := by omega
    rw [e6, if_pos (nI_le (Nat.le_refl 6) (by decide)), if_pos rfl]
    exact ⟨-1, σ, τ, rfl, rfl, rel_same hR⟩
