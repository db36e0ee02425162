/-! ===== PURE: reads, sent, feed ===== -/
theorem sim_reads (x y : Int32) : SimStep Rel0 (fX10_reads x y) (fX11_reads x y) := by
  intro t σ τ ht hR
  obtain ⟨a, hA, hB, hC, hD, hX, hM, hk⟩ := id hR
  have hK : cS a 1 ≤ 7 := hB.1.1
  have hn : cS a 2 ≤ 6 := hA.2.2.2.1
  obtain ⟨v, hv, m1, m2, mst, -⟩ := hM.2.2.2.2.2.1
  have x1 : gI σ 10 = nI (cS a 1) := hX.2.2.2.2.2.1.1
  have xr : gI σ 15 = nI (cS a 2) := hX.2.2.2.2.1.1
  have mr : gI τ 17 = nI (cS a 2) := hM.2.2.2.2.1.1
  obtain ⟨p1, p2, p3, p4⟩ := hX.2.2.2.2.2.2.2
  obtain ⟨n1, n2, n3⟩ := hM.2.2.2.2.2.2.2
  unfold fX10_reads fX11_reads
  rcases ix_or (x := x) (n := cS a 1) (by omega) with h | ⟨j, hj, rfl⟩
  · rw [xHasRep_no hX h, mStep_no hv m1 m2 h]
    simp only [Option.bind_some, if_true]
    exact ⟨0, σ, τ, rfl, rfl, rel_same hR⟩
  · rw [xHasRep x1 hX.2.2.2.2.2.1.2.1 hK hB.1.2.1 hj, mStep_yes hv m1 m2 hK hj]
    simp only [Option.bind_some, if_neg one_ne, pif, m1, m7]
    rw [if_pos (ix_nI (show 7 * v + j < 14 by omega) (by decide)), ldA_nI _ _ _ (by omega), (mst j hj).1]
    simp only [pif]
    by_cases b5 : (cS a 5).testBit j = true
    · rw [if_pos b5, if_pos b5]
      have h17 : cN a 17 j < 64 := Nat.lt_of_lt_of_le (hC.1 j (by omega)).1 (pow_le_64 hn)
      rcases ix_or (x := y) (n := cS a 2) (by omega) with h | ⟨r, hr, rfl⟩
      · rw [xReader_no xr h, mReader_no mr h]
        simp only [Option.bind_some, if_true]
        exact ⟨0, σ, τ, rfl, rfl, rel_same hR⟩
      · rw [xReader_yes xr hn hr, mReader_yes mr hn hr]
        simp only [Option.bind_some, if_neg one_ne]
        rw [xIsRead p2 (by omega) (by omega) (by omega), m6]
        simp only [Option.bind_some, pif]
        have hi : 6 * j + r < 42 := by omega
        rw [if_pos (ix_nI hi (by decide)), if_pos (ix_nI hi (by decide)), ldA_nI τ 39 (6 * j + r) (by omega), n1 j r (by omega) (by omega), if_pos (ix_nI (show j < 7 by omega) (by decide)), if_pos (ix_nI (show j < 7 by omega) (by decide))]
        simp only [pif]
        by_cases b : (cN a 17 j).testBit r = true
        · rw [if_pos b, if_pos b]; exact ⟨0, σ, τ, rfl, rfl, rel_same hR⟩
        · rw [if_neg b, if_neg b, ldA_nI _ _ _ (by omega), p2 j (by omega), nI_shl1 (by omega), nI_or]
          simp only [lt_def]
          rw [stA_nI _ _ _ _ (by omega), stA_nI _ _ _ _ (by omega)]
          have h2r : 2 ^ r < 2 ^ cS a 2 := Nat.pow_lt_pow_right (by decide) hr
          refine ⟨1, _, _, rfl, rfl, tN a 17 (uN (cN a 17) j (cN a 17 j ||| 2 ^ r)), wfA_mono hA, hB, ?_, hD, ?_, ?_, hk⟩
          · refine ⟨fun k hk => ?_, (wfC_mono hC).2⟩
            show uN (cN a 17) j (cN a 17 j ||| 2 ^ r) k < 2 ^ cS a 2 ∧ (uN (cN a 17) j (cN a 17 j ||| 2 ^ r) k ≠ 0 → k < cS a 1 ∧ (cS a 5).testBit k = true)
            rw [uN_at]
            split
            · rename_i e
              subst e
              exact ⟨or_lt (hC.1 k hk).1 h2r, fun _ => ⟨hj, b5⟩⟩
            · exact hC.1 k hk
          · refine ⟨hX.1, hX.2.1, hX.2.2.1, hX.2.2.2.1, hX.2.2.2.2.1, hX.2.2.2.2.2.1, hX.2.2.2.2.2.2.1, p1, fun k hk => ?_, p3, p4⟩
            show upd (gA σ 49) j (nI (cN a 17 j ||| 2 ^ r)) k = nI (uN (cN a 17) j (cN a 17 j ||| 2 ^ r) k)
            rw [upd_at, uN_at]
            split
            · rfl
            · exact p2 k hk
          · refine ⟨hM.1, hM.2.1, hM.2.2.1, hM.2.2.2.1, hM.2.2.2.2.1, hM.2.2.2.2.2.1, hM.2.2.2.2.2.2.1, fun k q hk hq => ?_, n2, n3⟩
            show upd (gA τ 39) (6 * j + r) (nz 1) (6 * k + q) = if (uN (cN a 17) j (cN a 17 j ||| 2 ^ r) k).testBit q = true then 1 else 0
            rw [upd_at, uN_at]
            by_cases e : k = j
            · subst e
              rw [if_pos rfl, testBit_set]
              by_cases e2 : q = r
              · subst e2
                rw [if_pos rfl]; simp; rfl
              · rw [if_neg (by omega), n1 k q hk hq]
                have : decide (r = q) = false := by simp; omega
                rw [this, Bool.or_false]
            · rw [if_neg e, if_neg (by omega), n1 k q hk hq]
    · rw [if_neg b5, if_neg b5]
      exact ⟨0, σ, τ, rfl, rfl, rel_same hR⟩
/-- the sum of eight longs from o on -/
def sum8 (f : Nat → Int64) (o : Nat) : Nat → Int64
  | 0 => 0
  | n + 1 => sum8 f o n + f (o + n)
theorem xSumLast {σ : ST} {j r : Nat} (hj : j < 7) (hr : r < 6) (f : Nat → Int64) (hf : ∀ i, i < 336 → gB σ 51 i = f i) : ∀ d g n, g + d = 8 → d < n → fX3_sumOfLast_L23 n (nI j) (nI r) (sum8 f (8 * (6 * j + r)) g) (nI g) σ = some (sum8 f (8 * (6 * j + r)) 8, σ) := by
  intro d
  induction d with
  | zero =>
    intro g n hg hn
    obtain ⟨m, rfl⟩ : ∃ m, n = m + 1 := ⟨n - 1, by omega⟩
    have : g = 8 := by omega
    subst this
    rw [fX3_sumOfLast_L23, show (8 : Int32) = nI 8 from rfl, if_pos (nI_le (Nat.le_refl 8) (by decide))]
  | succ d ih =>
    intro g n hg hn
    obtain ⟨m, rfl⟩ : ∃ m, n = m + 1 := ⟨n - 1, by omega⟩
    rw [fX3_sumOfLast_L23, if_neg (show ¬ (8 : Int32) ≤ nI g from nI_ge (show g < 8 by omega) (by decide))]
    unfold fX3_cell
    simp only [Option.bind_some, r6, r8, lt_def]
    rw [if_pos (ix_nI (show 8 * (6 * j + r) + g < 336 by omega) (by decide)), ldB_nI _ _ _ (by omega), hf _ (by omega), nI_1]
    exact ih (g + 1) m (by omega) (by omega)
theorem mSumLast {τ : ST} {j r : Nat} (hj : j < 7) (hr : r < 6) (f : Nat → Int64) (hf : ∀ i, i < 336 → gB τ 42 i = f i) : ∀ d g n, g + d = 8 → d < n → fX11_sent_L57 n (nI j) (nI r) (sum8 f (8 * (6 * j + r)) g) (nI g) τ = some (sum8 f (8 * (6 * j + r)) 8, τ) := by
  intro d
  induction d with
  | zero =>
    intro g n hg hn
    obtain ⟨m, rfl⟩ : ∃ m, n = m + 1 := ⟨n - 1, by omega⟩
    have : g = 8 := by omega
    subst this
    rw [fX11_sent_L57, show (8 : Int32) = nI 8 from rfl, if_pos (nI_le (Nat.le_refl 8) (by decide))]
  | succ d ih =>
    intro g n hg hn
    obtain ⟨m, rfl⟩ : ∃ m, n = m + 1 := ⟨n - 1, by omega⟩
    rw [fX11_sent_L57, if_neg (show ¬ (8 : Int32) ≤ nI g from nI_ge (show g < 8 by omega) (by decide))]
    simp only [m6, m8, lt_def]
    rw [if_pos (ix_nI (show 8 * (6 * j + r) + g < 336 by omega) (by decide)), ldB_nI _ _ _ (by omega), hf _ (by omega), nI_1]
    exact ih (g + 1) m (by omega) (by omega)
theorem sum8_zero {f : Nat → Int64} {o : Nat} : ∀ n, (∀ i, i < n → f (o + i) = 0) → sum8 f o n = 0 := by
  intro n
  induction n with
  | zero => intro _; rfl
  | succ n ih =>
    intro h
    rw [sum8, ih (fun i hi => h i (by omega)), h n (by omega)]
    rfl
theorem sim_sent (x y z : Int32) : SimStep Rel0 (fX10_sent FU x y z) (fX11_sent FU x y z) := by
  intro t σ τ ht hR
  obtain ⟨a, hA, hB, hC, hD, hX, hM, hk⟩ := id hR
  have hK : cS a 1 ≤ 7 := hB.1.1
  have hn : cS a 2 ≤ 6 := hA.2.2.2.1
  obtain ⟨v, hv, m1, m2, mst, -⟩ := hM.2.2.2.2.2.1
  have x1 : gI σ 10 = nI (cS a 1) := hX.2.2.2.2.2.1.1
  have xr : gI σ 15 = nI (cS a 2) := hX.2.2.2.2.1.1
  have mr : gI τ 17 = nI (cS a 2) := hM.2.2.2.2.1.1
  have p4 := hX.2.2.2.2.2.2.2.2.2.2
  have n3 := hM.2.2.2.2.2.2.2.2.2
  unfold fX10_sent fX11_sent
  rcases ix_or (x := x) (n := cS a 1) (by omega) with h | ⟨j, hj, rfl⟩
  · rw [xHasRep_no hX h, mStep_no hv m1 m2 h]
    simp only [Option.bind_some, if_true]
    exact ⟨0, σ, τ, rfl, rfl, rel_same hR⟩
  · rw [xHasRep x1 hX.2.2.2.2.2.1.2.1 hK hB.1.2.1 hj, mStep_yes hv m1 m2 hK hj]
    simp only [Option.bind_some, if_neg one_ne, pif]
    rcases ix_or (x := y) (n := cS a 2) (by omega) with h | ⟨r, hr, rfl⟩
    · rw [xReader_no xr h, mReader_no mr h]
      simp only [Option.bind_some, if_true]
      refine ⟨0, σ, τ, ?_, rfl, rel_same hR⟩
      split <;> rfl
    · rw [xReader_yes xr hn hr, mReader_yes mr hn hr]
      simp only [Option.bind_some, if_neg one_ne, m6, m8]
      by_cases hz : z = -1
      · subst hz
        rw [if_pos (show (-1 : Int32) = -1 from rfl), if_neg (show ¬ (-1 : Int32) < -1 by decide), if_pos (show (-1 : Int32) ≤ 7 by decide), if_pos (show (-1 : Int32) = -1 from rfl), lt_def, lt_def]
        unfold fX3_sumOfLast
        rw [lt_def, xBelow_yes (y := 7) (n := 7) rfl (show j < 7 by omega) (by decide)]
        simp only [Option.bind_some, if_neg one_ne]
        rw [xBelow_yes (y := 6) (n := 6) rfl (show r < 6 by omega) (by decide)]
        simp only [Option.bind_some, if_neg one_ne, lt_def]
        have e1 := xSumLast (σ := σ) (show j < 7 by omega) (show r < 6 by omega) (cL a 1) p4 8 0 FU (by decide) (by decide)
        have e2 := mSumLast (τ := τ) (show j < 7 by omega) (show r < 6 by omega) (cL a 1) n3 8 0 FU (by decide) (by decide)
        rw [show fX3_sumOfLast_L23 FU (nI j) (nI r) 0 0 σ = some (sum8 (cL a 1) (8 * (6 * j + r)) 8, σ) from e1, show fX11_sent_L57 FU (nI j) (nI r) 0 0 τ = some (sum8 (cL a 1) (8 * (6 * j + r)) 8, τ) from e2]
        by_cases b5 : (cS a 5).testBit j = true
        · rw [if_pos b5]; exact ⟨_, σ, τ, rfl, rfl, rel_same hR⟩
        · rw [if_neg b5]
          refine ⟨0, σ, τ, rfl, ?_, rel_same hR⟩
          rw [sum8_zero 8 (fun g hg => hC.2.2.2 j r g (by omega) (by omega) hg (by simpa using b5))]
      · rw [if_neg hz]
        rcases ix_or (x := z) (n := 8) (by decide) with h | ⟨g, hg, rfl⟩
        · rw [xBelow_no (y := 8) (n := 8) rfl h]
          simp only [Option.bind_some, if_true]
          have hm : (if z < -1 then some ((0 : Int64), τ) else if z ≤ 7 then (if z = -1 then (lt ((0 : Int64)) (fun x4_8 => (lt ((0 : Int32)) (fun x6_9 => (fX11_sent_L57 FU (nI j) (nI r) x4_8 x6_9 τ))))) else (if ix (8 * nI (6 * j + r) + z) 336 then (some (ldB τ 42 (8 * nI (6 * j + r) + z), τ)) else none)) else some (0, τ)) = some (0, τ) := by
            by_cases c1 : z < -1
            · rw [if_pos c1]
            · rw [if_neg c1]
              have c2 : ¬ z ≤ 7 := fun q => by
                rcases h with h | h
                · rw [Int32.lt_iff_toInt_lt] at c1 h
                  apply hz
                  apply Int32.toInt_inj.mp
                  simp at c1 h ⊢
                  omega
                · rw [Int32.le_iff_toInt_le] at q h
                  simp [nI_toInt (show 8 < 2 ^ 31 by decide)] at q h
                  omega
              rw [if_neg c2]
          rw [hm]
          refine ⟨0, σ, τ, ?_, rfl, rel_same hR⟩
          split <;> rfl
        · rw [xBelow_yes (y := 8) (n := 8) rfl hg (by decide)]
          simp only [Option.bind_some, if_neg one_ne, m8]
          have c1 : ¬ nI g < -1 := fun q => by
            rw [Int32.lt_iff_toInt_lt, nI_toInt (by omega)] at q
            simp at q; omega
          have c2 : nI g ≤ 7 := nI_le (show g ≤ 7 by omega) (by decide)
          have hi : 8 * (6 * j + r) + g < 336 := by omega
          rw [if_neg c1, if_pos c2, if_neg hz, if_pos (ix_nI hi (by decide)), ldB_nI _ _ _ (by omega), n3 _ hi]
          unfold fX3_cell
          simp only [Option.bind_some, r6, r8]
          rw [if_pos (ix_nI hi (by decide)), ldB_nI _ _ _ (by omega), p4 _ hi]
          by_cases b5 : (cS a 5).testBit j = true
          · rw [if_pos b5]; exact ⟨_, σ, τ, rfl, rfl, rel_same hR⟩
          · rw [if_neg b5]
            refine ⟨0, σ, τ, rfl, ?_, rel_same hR⟩
            rw [hC.2.2.2 j r g (by omega) (by omega) hg (by simpa using b5)]
