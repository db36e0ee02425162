/-! ===== PURE: value, marks, hosts, reads, feed ===== -/
theorem sim_value (x y : Int32) : SimStep Rel0 (fX10_value x y) (fX11_value x y) := by
  intro t σ τ ht hR
  obtain ⟨a, hA, hB, hC, hD, hX, hM, hk⟩ := id hR
  have hK : cS a 1 ≤ 7 := hB.1.1
  obtain ⟨v, hv, m1, m2, mst, -⟩ := hM.2.2.2.2.2.1
  have x1 : gI σ 10 = nI (cS a 1) := hX.2.2.2.2.2.1.1
  obtain ⟨xw1, xw2, xw3, -, xw6, xw7, xw8, xw9, xw10, xw11⟩ := hX.2.2.2.2.2.2.1
  obtain ⟨mw1, mw2, mw3, mw4, mw5, mw6, mw7, mw8⟩ := hM.2.2.2.2.2.2.1
  have hdb : cS a 6 < 128 := Nat.lt_of_lt_of_le hB.2.1.2.2.2 (pow_le_128 hK)
  unfold fX10_value fX11_value
  rcases ix_or (x := x) (n := cS a 1) (by omega) with h | ⟨j, hj, rfl⟩
  · rw [xStep_no hX h, mStep_no hv m1 m2 h]
    simp only [Option.bind_some, if_true]
    exact ⟨0, σ, τ, rfl, rfl, rel_same hR⟩
  · rw [xStep_yes x1 hK hj, mStep_yes hv m1 m2 hK hj]
    simp only [Option.bind_some, if_neg one_ne]
    rcases ix_or (x := y) (n := 8) (by decide) with h | ⟨g, hg, rfl⟩
    · rw [xBelow_no (y := 8) (n := 8) rfl h]
      simp only [Option.bind_some, if_true]
      refine ⟨0, σ, τ, rfl, ?_, rel_same hR⟩
      by_cases h0 : y < 0
      · rw [if_pos h0]
      · rw [if_neg h0, show (8 : Int32) = nI 8 from rfl, if_pos (h.resolve_left h0)]
    · rw [xBelow_yes (y := 8) (n := 8) rfl hg (by decide)]
      simp only [Option.bind_some, if_neg one_ne]
      rw [if_neg (nI_pos (by omega)), if_neg (show ¬ (8 : Int32) ≤ nI g from nI_ge hg (by decide)), if_pos (ix_nI (show j < 7 by omega) (by decide)), ldA_nI _ _ _ (by omega), mw6 j hj, xDone xw3 (by omega) (by omega), m8, r8]
      simp only [Option.bind_some, pif]
      rw [if_pos (ix_nI (show 8 * j + g < 56 by omega) (by decide)), if_pos (ix_nI (show 8 * j + g < 56 by omega) (by decide)), ldB_nI _ _ _ (by omega), ldB_nI _ _ _ (by omega)]
      by_cases b6 : (cS a 6).testBit j = true
      · have hn : ¬ nI (cN a 14 j) = -1 := nI_ne_m1 (by have := hB.2.2.2.2.2.2.1 j hj b6; have := hB.2.1.1; omega)
        rw [if_pos b6, if_pos b6, if_neg hn]
        exact ⟨_, σ, τ, rfl, by rw [mw7 j hj b6 g hg, xw10 j hj b6 g hg], rel_same hR⟩
      · rw [if_neg b6, if_neg b6, if_pos rfl]
        exact ⟨0, σ, τ, rfl, rfl, rel_same hR⟩
theorem xIsRead {a : AS} {j r : Nat} {σ : ST} (hX : ∀ k, k < 7 → gA σ 49 k = nI (cN a 17 k)) (hb : cN a 17 j < 2 ^ 31) (hj : j < 7) (hr : r < 32) : fX3_isRead (nI j) (nI r) σ = some (if (cN a 17 j).testBit r = true then 1 else 0, σ) := by
  unfold fX3_isRead
  rw [if_pos (ix_nI hj (by decide)), ldA_nI _ _ _ (by omega), hX j hj]
  cases h : (cN a 17 j).testBit r
  · rw [if_pos ((bit_zero hb hr).mpr h)]; rfl
  · rw [if_neg (fun q => by rw [bit_zero hb hr, h] at q; cases q)]; rfl
theorem sim_marks (x y : Int32) : SimStep Rel0 (fX10_marks x y) (fX11_marks x y) := by
  intro t σ τ ht hR
  obtain ⟨a, hA, hB, hC, hD, hX, hM, hk⟩ := id hR
  have hK : cS a 1 ≤ 7 := hB.1.1
  have hn : cS a 2 ≤ 6 := hA.2.2.2.1
  obtain ⟨v, hv, m1, m2, mst, -⟩ := hM.2.2.2.2.2.1
  have x1 : gI σ 10 = nI (cS a 1) := hX.2.2.2.2.2.1.1
  have xr : gI σ 15 = nI (cS a 2) := hX.2.2.2.2.1.1
  have mr : gI τ 17 = nI (cS a 2) := hM.2.2.2.2.1.1
  obtain ⟨p1, p2, p3, p4⟩ := hX.2.2.2.2.2.2.2
  obtain ⟨n1, n2, n3⟩ := hM.2.2.2.2.2.2.2
  unfold fX10_marks fX11_marks
  rcases ix_or (x := x) (n := cS a 1) (by omega) with h | ⟨j, hj, rfl⟩
  · rw [xHasRep_no hX h, mStep_no hv m1 m2 h]
    simp only [Option.bind_some, if_true]
    exact ⟨-1, σ, τ, rfl, rfl, rel_same hR⟩
  · rw [xHasRep x1 hX.2.2.2.2.2.1.2.1 hK hB.1.2.1 hj, mStep_yes hv m1 m2 hK hj]
    simp only [Option.bind_some, if_neg one_ne, pif]
    have h17 : cN a 17 j < 64 := Nat.lt_of_lt_of_le (hC.1 j (by omega)).1 (pow_le_64 hn)
    rcases ix_or (x := y) (n := cS a 2) (by omega) with h | ⟨r, hr, rfl⟩
    · rw [xReader_no xr h, mReader_no mr h]
      simp only [Option.bind_some, if_true]
      refine ⟨-1, σ, τ, ?_, rfl, rel_same hR⟩
      split <;> rfl
    · rw [xReader_yes xr hn hr, mReader_yes mr hn hr]
      simp only [Option.bind_some, if_neg one_ne]
      rw [xIsRead p2 (by omega) (by omega) (by omega), m6]
      unfold fX3_cell
      simp only [Option.bind_some, pif, r6]
      have hi : 6 * j + r < 42 := by omega
      rw [if_pos (ix_nI hi (by decide)), if_pos (ix_nI hi (by decide)), if_pos (ix_nI hi (by decide)), ldA_nI _ _ _ (by omega), ldA_nI _ _ _ (by omega), ldA_nI _ _ _ (by omega), n1 j r (by omega) (by omega), (n2 _ hi).1, p3 _ hi]
      simp only [pif]
      by_cases b : (cN a 17 j).testBit r = true
      · have h5 : (cS a 5).testBit j = true := ((hC.1 j (by omega)).2 (fun q => by rw [q] at b; simp at b)).2
        rw [if_pos h5, if_pos b, if_pos b]
        exact ⟨_, σ, τ, rfl, rfl, rel_same hR⟩
      · rw [if_neg b, if_neg b]
        refine ⟨-1, σ, τ, ?_, rfl, rel_same hR⟩
        split <;> rfl
theorem sim_hosts (x : Int32) : SimStep Rel0 (fX10_hosts x) (fX11_hosts FU x) := by
  intro t σ τ ht hR
  obtain ⟨a, hA, hB, hC, hD, hX, hM, hk⟩ := id hR
  have hK : cS a 1 ≤ 7 := hB.1.1
  obtain ⟨xw1, xw2, xw3, ⟨w, hw, xw4, xw5⟩, xw6⟩ := hX.2.2.2.2.2.2.1
  have mw3 := hM.2.2.2.2.2.2.1.2.2.1
  have hat : ∀ h, h < 3 → cN a 12 h ≤ 7 := fun h hh => Nat.le_trans (hB.2.2.1 h hh) hK
  unfold fX10_hosts fX11_hosts
  by_cases h0 : x < 1
  · rw [if_pos h0, if_pos h0]; exact ⟨0, σ, τ, rfl, rfl, rel_same hR⟩
  · rw [if_neg h0, if_neg h0]
    by_cases h1 : x ≤ 3
    · rw [if_neg (Int32.not_lt.mpr h1), if_pos h1, xw4]
      have hx0 : ¬ x < 0 := fun q => h0 (by
        rw [Int32.lt_iff_toInt_lt] at q ⊢
        simp at q ⊢; omega)
      obtain ⟨p, hp, rfl⟩ := nI_of2 (n := 3) (by decide) hx0 h1
      have hp1 : 1 ≤ p := by
        rcases Nat.lt_or_ge p 1 with q | q
        · exfalso; apply h0; rw [show (1 : Int32) = nI 1 from rfl]; exact nI_lt q (by decide)
        · exact q
      have step : ∀ (n h : Nat), h < 3 → fX11_hosts_L14 (n + 1) (nI p) (nI h) τ = if cN a 12 h = 0 then fX11_hosts_L14 n (nI p) (nI (h + 1)) τ else some (0, τ) := by
        intro n h hh
        rw [fX11_hosts_L14]
        rw [show (3 : Int32) = nI 3 from rfl, if_neg (nI_ge hh (by decide)), if_pos (ix_nI hh (by decide)), ldA_nI _ _ _ (by omega), lt_def, nI_1, mw3 h hh]
        by_cases e : cN a 12 h = 0
        · rw [if_pos e, if_pos e, if_pos rfl]
        · rw [if_neg e, if_neg e, if_neg (nI_ne_m1 (by have := hat h hh; omega))]
      have last : ∀ n, fX11_hosts_L14 (n + 1) (nI p) (nI 3) τ = some (1, sI τ 19 (nI p)) := by
        intro n
        rw [fX11_hosts_L14, show (3 : Int32) = nI 3 from rfl, if_pos (nI_le (Nat.le_refl 3) (by decide))]; rfl
      rw [lt_def, lt_def, show (0 : Int32) = nI 0 from rfl, show FU = 999996 + 1 + 1 + 1 + 1 from rfl, step _ 0 (by decide), step _ 1 (by decide), step _ 2 (by decide), last]
      by_cases e : cN a 12 0 = 0 ∧ cN a 12 1 = 0 ∧ cN a 12 2 = 0
      · have w0 : w = 0 := by
          apply Nat.eq_of_testBit_eq
          intro k
          rw [Nat.zero_testBit]
          rcases Nat.lt_or_ge k 7 with hk7 | hk7
          · cases hb : w.testBit k with
            | false => rfl
            | true =>
              obtain ⟨h, hh, q⟩ := (xw5 k hk7).mp hb
              rcases (show h = 0 ∨ h = 1 ∨ h = 2 by omega) with rfl | rfl | rfl <;> omega
          · exact Nat.testBit_lt_two_pow (Nat.lt_of_lt_of_le hw (show 2 ^ 7 ≤ 2 ^ k from Nat.pow_le_pow_right (by decide) hk7))
        subst w0
        rw [if_pos rfl, if_pos e.1, if_pos e.2.1, if_pos e.2.2]
        refine ⟨1, _, _, rfl, rfl, tS a 4 p, wfA_mono hA, ?_, wfC_mono hC, hD, ?_, ?_, hk⟩
        · refine ⟨hB.1, ⟨hB.2.1.1, hp1, hp, hB.2.1.2.2.2⟩, hB.2.2.1, hB.2.2.2.1, fun h _ hh => ?_, hB.2.2.2.2.2⟩
          show cN a 12 h = 0
          rcases (show h = 0 ∨ h = 1 ∨ h = 2 by omega) with rfl | rfl | rfl
          · exact e.1
          · exact e.2.1
          · exact e.2.2
        · exact ⟨hX.1, hX.2.1, hX.2.2.1, hX.2.2.2.1, hX.2.2.2.2.1, hX.2.2.2.2.2.1, ⟨xw1, rfl, xw3, ⟨0, by decide, xw4, xw5⟩, xw6⟩, hX.2.2.2.2.2.2.2⟩
        · exact ⟨hM.1, hM.2.1, hM.2.2.1, hM.2.2.2.1, hM.2.2.2.2.1, hM.2.2.2.2.2.1, ⟨hM.2.2.2.2.2.2.1.1, rfl, hM.2.2.2.2.2.2.1.2.2⟩, hM.2.2.2.2.2.2.2⟩
      · have w0 : ¬ nI w = nI 0 := by
          rw [nI_eq (by omega) (by decide)]
          intro q
          apply e
          have : ∀ h, h < 3 → cN a 12 h = 0 := by
            intro h hh
            rcases Nat.eq_zero_or_pos (cN a 12 h) with z | z
            · exact z
            · exfalso
              have hb := (xw5 (cN a 12 h - 1) (by have := hat h hh; omega)).mpr ⟨h, hh, by omega⟩
              rw [q, Nat.zero_testBit] at hb
              cases hb
          exact ⟨this 0 (by decide), this 1 (by decide), this 2 (by decide)⟩
        rw [if_neg w0]
        refine ⟨nI 0, σ, τ, rfl, ?_, rel_same hR⟩
        by_cases e0 : cN a 12 0 = 0
        · rw [if_pos e0]
          by_cases e1 : cN a 12 1 = 0
          · rw [if_pos e1]
            by_cases e2 : cN a 12 2 = 0
            · exact absurd ⟨e0, e1, e2⟩ e
            · rw [if_neg e2]; rfl
          · rw [if_neg e1]; rfl
        · rw [if_neg e0]; rfl
    · rw [if_pos (Int32.not_le.mp h1), if_neg h1]; exact ⟨0, σ, τ, rfl, rfl, rel_same hR⟩
