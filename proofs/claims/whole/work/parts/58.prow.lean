/-! ===== PURE: row ===== -/
theorem fgS_cg {gr gr' : Nat → Nat} {va va' : Nat → Int32} {o g : Nat} : ∀ n, (∀ i, i < n → gr (o + i) = gr' (o + i) ∧ va (o + i) = va' (o + i)) → fgS gr va o g n = fgS gr' va' o g n := by
  intro n
  induction n with
  | zero => intro _; rfl
  | succ n ih => intro h; rw [fgS, fgS, ih (fun i hi => h i (by omega)), (h n (by omega)).1, (h n (by omega)).2]
theorem fgC_cg {gr gr' : Nat → Nat} {o g : Nat} : ∀ n, (∀ i, i < n → gr (o + i) = gr' (o + i)) → fgC gr o g n = fgC gr' o g n := by
  intro n
  induction n with
  | zero => intro _; rfl
  | succ n ih => intro h; rw [fgC, fgC, ih (fun i hi => h i (by omega)), h n (by omega)]
theorem fgM_cg {gr gr' : Nat → Nat} {va va' : Nat → Int32} {o g : Nat} : ∀ n, (∀ i, i < n → gr (o + i) = gr' (o + i) ∧ va (o + i) = va' (o + i)) → fgM gr va o g n = fgM gr' va' o g n := by
  intro n
  induction n with
  | zero => intro _; rfl
  | succ n ih => intro h; rw [fgM, fgM, ih (fun i hi => h i (by omega)), fgC_cg n (fun i hi => (h i (by omega)).1), (h n (by omega)).1, (h n (by omega)).2]
theorem fgC_le {gr : Nat → Nat} {o g : Nat} : ∀ n, fgC gr o g n ≤ n := by
  intro n
  induction n with
  | zero => exact Nat.le_refl 0
  | succ n ih => rw [fgC]; split <;> omega
theorem max64 (v m : Int64) : (if v < m then m else v) = if m < v then v else m := by
  by_cases h1 : v < m
  · rw [if_pos h1, if_neg (fun q => by rw [Int64.lt_iff_toInt_lt] at h1 q; omega)]
  · by_cases h2 : m < v
    · rw [if_neg h1, if_pos h2]
    · rw [if_neg h1, if_neg h2]
      apply Int64.toInt_inj.mp
      rw [Int64.lt_iff_toInt_lt] at h1 h2; omega
theorem lgc0 {n : Nat} (h : n < 2 ^ 31) : (lg_cmp (lN n) 0 = 0) ↔ n = 0 := by
  unfold lg_cmp
  have e : (lN n = 0) ↔ n = 0 := lN_eq (b := 0) h (by decide)
  have l : (lN n > 0) ↔ 0 < n := lN_lt (a := 0) (by decide) h
  by_cases hn : n = 0
  · subst hn; exact iff_of_true (by decide) rfl
  · rw [if_pos (l.mpr (by omega))]; simp [hn]
theorem xLoad {σ : ST} {j g n ld : Nat} {S M : Int64} (z : Int32) (hj : j < 6) (hg : g < 8) (hld : gA σ 33 j = nI ld) (hl : ld < 40) (h1 : gB σ 41 (8 * j + g) = S) (h2 : gB σ 42 (8 * j + g) = lN n) (hn : n < 2 ^ 30) (h3 : gB σ 43 (8 * j + g) = M) :
    fX5_load (nI j) (nI g) z σ = some (nI (ld + 1), sA (sB (sB (sB σ 41 (vp_updL (gB σ 41) (8 * j + g) (S + z.toInt64))) 43 (vp_updL (gB σ 43) (8 * j + g) (if n = 0 then z.toInt64 else if M < z.toInt64 then z.toInt64 else M))) 42 (vp_updL (gB σ 42) (8 * j + g) (lN (n + 1)))) 33 (upd (gA σ 33) j (nI (ld + 1)))) := by
  have hc : 8 * j + g < 48 := by omega
  have i48 : ix (nI (8 * j + g)) 48 := ix_nI hc (by decide)
  have i6 : ix (nI j) 6 := ix_nI hj (by decide)
  unfold fX5_load fX0_add
  rw [xBelow_yes (y := 6) (n := 6) rfl hj (by decide)]
  simp only [Option.bind_some, if_neg one_ne]
  rw [xBelow_yes (y := 8) (n := 8) rfl hg (by decide)]
  simp only [Option.bind_some, if_neg one_ne, lt_def, r8, if_pos i48, if_pos i6, ldB_nI _ _ (8 * j + g) (show 8 * j + g < 2 ^ 31 by omega), stB_nI _ _ (8 * j + g) _ (show 8 * j + g < 2 ^ 31 by omega), stA_nI _ _ j _ (show j < 2 ^ 31 by omega), ldA_nI _ _ j (show j < 2 ^ 31 by omega), gB_sB, gA_sB, gA_sA, Nat.reduceEqDiff, if_true, if_false, h1, h2, h3, hld, lN_1, nI_1, upd_at]
  by_cases e : n = 0
  · rw [if_pos ((lgc0 (by omega)).mpr e), if_pos e]; simp only [Option.bind_some, gA_sB, hld, nI_1]
  · rw [if_neg (fun q => e ((lgc0 (by omega)).mp q)), if_neg e, max64]; simp only [Option.bind_some, gA_sB, hld, nI_1]
theorem sim_row (x y z : Int32) : SimStep Rel0 (fX10_row x y z) (fX11_row x y z) := by
  intro t σ τ ht hR
  obtain ⟨a, hA, hB, hC, hD, hX, hM, hk⟩ := id hR
  unfold fX10_row fX11_row
  rcases ix_or (x := x) (n := 6) (by decide) with h | ⟨j, hj, rfl⟩
  · rw [xBelow_no (y := 6) (n := 6) rfl h, mTable_no h]
    simp only [Option.bind_some, if_true]
    exact ⟨-1, σ, τ, rfl, rfl, rel_same hR⟩
  · rw [xBelow_yes (y := 6) (n := 6) rfl hj (by decide), mTable_yes hj]
    simp only [Option.bind_some, if_neg one_ne]
    rcases ix_or (x := y) (n := 8) (by decide) with h | ⟨g, hg, rfl⟩
    · rw [xBelow_no (y := 8) (n := 8) rfl h]
      simp only [Option.bind_some, if_true]
      refine ⟨-1, σ, τ, rfl, ?_, rel_same hR⟩
      by_cases h0 : y < 0
      · rw [if_pos h0]
      · have h7 : (7 : Int32) < y := by
          have := h.resolve_left h0
          rw [Int32.le_iff_toInt_le] at this
          rw [Int32.lt_iff_toInt_lt]
          simp [nI_toInt (show 8 < 2 ^ 31 by decide)] at this ⊢
          omega
        rw [if_neg h0, if_pos h7]
    · rw [xBelow_yes (y := 8) (n := 8) rfl hg (by decide)]
      simp only [Option.bind_some, if_neg one_ne]
      have xt := hX.2.2.2.1.2.1 j hj
      have mt := hM.2.2.2.1.1 j hj
      have wt := hA.2.2.1.2 j hj
      have h7 : ¬ (7 : Int32) < nI g := Int32.not_lt.mpr (nI_le (show g ≤ 7 by omega) (by decide))
      have i6 : ix (nI j) 6 := ix_nI hj (by decide)
      rw [if_pos i6, if_neg (nI_pos (by omega)), if_neg h7, if_pos i6, ldA_nI _ _ _ (by omega), ldA_nI _ _ _ (by omega), xt.2.1, mt.2.1, m40, show (40 : Int32) = nI 40 from rfl]
      rcases Nat.lt_or_ge (cN a 7 j) 40 with hlt | hge
      · have hne : ¬ nI (cN a 7 j) = nI 40 := fun q => by rw [nI_eq (by omega) (by decide)] at q; omega
        have hi : 40 * j + cN a 7 j < 240 := by omega
        have i240 : ix (nI (40 * j + cN a 7 j)) 240 := ix_nI hi (by decide)
        rw [if_pos (nI_lt hlt (by decide)), if_neg hne, if_pos i6, if_pos i240]
        obtain ⟨ex1, ex2, ex3⟩ := hX.2.2.2.1.2.2.1 j g hj hg
        have hcn := fgC_le (gr := cN a 22) (o := 40 * j) (g := g) (cN a 7 j)
        rw [xLoad z hj hg xt.2.1 hlt ex1 ex2 (by omega) ex3]
        simp only [Option.bind_some, lt_def, stA_nI _ _ (40 * j + cN a 7 j) _ (show 40 * j + cN a 7 j < 2 ^ 31 by omega), stA_nI _ _ j _ (show j < 2 ^ 31 by omega), ldA_nI _ _ j (show j < 2 ^ 31 by omega), gA_sA, Nat.reduceEqDiff, if_true, if_false, mt.2.1, show (nI 40) = (40 : Int32) from rfl, m40, if_pos i6, if_pos i240, nI_1, upd_at]
        refine ⟨nI (cN a 7 j + 1), _, _, rfl, rfl, tN (tI (tN a 22 (uN (cN a 22) (40 * j + cN a 7 j) g)) 2 (upd (cI a 2) (40 * j + cN a 7 j) z)) 7 (uN (cN a 7) j (cN a 7 j + 1)), ?_, hB, wfC_mono hC, hD, ?_, ?_, hk⟩
        · refine ⟨hA.1, hA.2.1, ⟨hA.2.2.1.1, fun x hx => ?_⟩, hA.2.2.2⟩
          have w := hA.2.2.1.2 x hx
          refine ⟨Nat.le_succ_of_le w.1, ?_, w.2.2.1, w.2.2.2.1, ?_, w.2.2.2.2.2⟩
          · show uN (cN a 7) j (cN a 7 j + 1) x ≤ 40
            rw [uN_at]; split <;> omega
          · show ∀ i, i < uN (cN a 7) j (cN a 7 j + 1) x → uN (cN a 22) (40 * j + cN a 7 j) g (40 * x + i) < 8
            intro i hi2
            rw [uN_at] at hi2 ⊢
            split
            · exact hg
            · rename_i q
              by_cases e : x = j
              · subst e; rw [if_pos rfl] at hi2; exact w.2.2.2.2.1 i (by omega)
              · rw [if_neg e] at hi2; exact w.2.2.2.2.1 i hi2
        · refine ⟨hX.1, hX.2.1, hX.2.2.1, ⟨hX.2.2.2.1.1, fun x hx => ?_, fun x g' hx hg' => ?_, hX.2.2.2.1.2.2.2⟩, hX.2.2.2.2⟩
          · have w := hX.2.2.2.1.2.1 x hx
            refine ⟨w.1, ?_, w.2.2⟩
            show upd (gA σ 33) j (nI (cN a 7 j + 1)) x = nI (uN (cN a 7) j (cN a 7 j + 1) x)
            rw [upd_at, uN_at]; split
            · rfl
            · exact w.2.1
          · obtain ⟨w1, w2, w3⟩ := hX.2.2.2.1.2.2.1 x g' hx hg'
            show vp_updL (gB σ 41) (8 * j + g) _ (8 * x + g') = fgS (uN (cN a 22) (40 * j + cN a 7 j) g) (upd (cI a 2) (40 * j + cN a 7 j) z) (40 * x) g' (uN (cN a 7) j (cN a 7 j + 1) x) ∧ vp_updL (gB σ 42) (8 * j + g) _ (8 * x + g') = lN (fgC (uN (cN a 22) (40 * j + cN a 7 j) g) (40 * x) g' (uN (cN a 7) j (cN a 7 j + 1) x)) ∧ vp_updL (gB σ 43) (8 * j + g) _ (8 * x + g') = fgM (uN (cN a 22) (40 * j + cN a 7 j) g) (upd (cI a 2) (40 * j + cN a 7 j) z) (40 * x) g' (uN (cN a 7) j (cN a 7 j + 1) x)
            have w7 := (hA.2.2.1.2 x hx).2.1
            have old : ∀ i, i < cN a 7 x → uN (cN a 22) (40 * j + cN a 7 j) g (40 * x + i) = cN a 22 (40 * x + i) ∧ upd (cI a 2) (40 * j + cN a 7 j) z (40 * x + i) = cI a 2 (40 * x + i) := by
              intro i hi2
              have hne2 : ¬ (40 * x + i = 40 * j + cN a 7 j) := by
                intro q
                by_cases e : x = j
                · subst e; omega
                · omega
              rw [uN_at, upd_at, if_neg hne2, if_neg hne2]; exact ⟨rfl, rfl⟩
            rw [updL_at, updL_at, updL_at, uN_at]
            by_cases e : x = j
            · subst e
              rw [if_pos rfl, fgS, fgC, fgM, fgS_cg _ old, fgC_cg _ (fun i hi2 => (old i hi2).1), fgM_cg _ old, uN_at, upd_at, if_pos rfl, if_pos rfl]
              by_cases eg : g' = g
              · subst eg
                rw [if_pos rfl, if_pos rfl, if_pos rfl, if_pos rfl, if_pos rfl, if_pos rfl]
                exact ⟨rfl, rfl, rfl⟩
              · simp only [if_neg (show ¬ (8 * x + g' = 8 * x + g) by omega), if_neg (show ¬ (g = g') from fun q => eg q.symm)]
                exact ⟨w1, w2, w3⟩
            · simp only [if_neg (show ¬ (8 * x + g' = 8 * j + g) by omega), if_neg e]
              rw [fgS_cg _ old, fgC_cg _ (fun i hi2 => (old i hi2).1), fgM_cg _ old]
              exact ⟨w1, w2, w3⟩
        · refine ⟨hM.1, hM.2.1, hM.2.2.1, ⟨fun x hx => ?_, fun x i hx hi2 => ?_, hM.2.2.2.1.2.2⟩, hM.2.2.2.2⟩
          · have w := hM.2.2.2.1.1 x hx
            refine ⟨w.1, ?_, w.2.2⟩
            show upd (gA τ 25) j (nI (cN a 7 j + 1)) x = nI (uN (cN a 7) j (cN a 7 j + 1) x)
            rw [upd_at, uN_at]; split
            · rfl
            · exact w.2.1
          · have hi3 : i < uN (cN a 7) j (cN a 7 j + 1) x := hi2
            show upd (gA τ 26) (40 * j + cN a 7 j) (nI g) (40 * x + i) = nI (uN (cN a 22) (40 * j + cN a 7 j) g (40 * x + i)) ∧ upd (gA τ 27) (40 * j + cN a 7 j) z (40 * x + i) = upd (cI a 2) (40 * j + cN a 7 j) z (40 * x + i)
            rw [uN_at] at hi3
            rw [upd_at, upd_at, uN_at, upd_at]
            by_cases e : 40 * x + i = 40 * j + cN a 7 j
            · rw [if_pos e, if_pos e, if_pos e, if_pos e]; exact ⟨rfl, rfl⟩
            · rw [if_neg e, if_neg e, if_neg e, if_neg e]
              refine hM.2.2.2.1.2.1 x i hx ?_
              by_cases ex : x = j
              · subst ex; rw [if_pos rfl] at hi3; omega
              · rw [if_neg ex] at hi3; exact hi3
      · have e40 : cN a 7 j = 40 := by omega
        rw [e40, if_neg (nI_nlt (Nat.le_refl 40) (by decide)), if_pos rfl]
        exact ⟨-1, σ, τ, rfl, rfl, rel_same hR⟩
