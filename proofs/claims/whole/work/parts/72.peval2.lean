/-! ===== PURE: an E is worked by the class ===== -/
theorem xFig {σ : ST} {k v g : Nat} (fig : Nat → Nat → Int64) (hk1 : 1 ≤ k) (hk3 : k ≤ 3) (hv : v < 6) (hg : g < 8) (hf : gB σ (36 + k) (8 * v + g) = fig k v) : fX8_figure (xopOf k) (nI v) (nI g) σ = some (fig k v, σ) := by
  have i48 : ix (nI (8 * v + g)) 48 := ix_nI (by omega) (by decide)
  unfold fX8_figure
  rw [xBelow_yes (y := 6) (n := 6) rfl hv (by decide)]
  simp only [Option.bind_some, if_neg one_ne, lt_def, r8, if_pos i48, ldB_nI _ _ (8 * v + g) (show 8 * v + g < 2 ^ 31 by omega)]
  rcases (show k = 1 ∨ k = 2 ∨ k = 3 by omega) with rfl | rfl | rfl
  · rw [if_pos (show xopOf 1 = 265 by decide), ← hf]
  · rw [if_neg (show ¬ xopOf 2 = 265 by decide), if_pos (show xopOf 2 = 266 by decide), ← hf]
  · rw [if_neg (show ¬ xopOf 3 = 265 by decide), if_neg (show ¬ xopOf 3 = 266 by decide), ← hf]
theorem xJoin {k : Nat} (hk : 5 ≤ k) (hk9 : k < 9) (x y : Int64) (σ : ST) : fX8_joined (xopOf k) x y σ = some (opL k x y, σ) := by
  unfold fX8_joined
  simp only [lt_def]
  rcases (show k = 5 ∨ k = 6 ∨ k = 7 ∨ k = 8 by omega) with rfl | rfl | rfl | rfl
  · rw [if_neg (show ¬ xopOf 5 = 42 by decide), if_pos (show xopOf 5 = 43 by decide)]; rfl
  · rw [if_neg (show ¬ xopOf 6 = 42 by decide), if_neg (show ¬ xopOf 6 = 43 by decide), if_neg (show ¬ xopOf 6 = 44 by decide), if_pos (show xopOf 6 = 45 by decide)]; rfl
  · rw [if_pos (show xopOf 7 = 42 by decide)]; rfl
  · rw [if_neg (show ¬ xopOf 8 = 42 by decide), if_neg (show ¬ xopOf 8 = 43 by decide), if_neg (show ¬ xopOf 8 = 44 by decide), if_neg (show ¬ xopOf 8 = 45 by decide)]; rfl
theorem xPerform {σ : ST} {k v g K : Nat} {s : List Int64} (fig : Nat → Nat → Int64) (val : Nat → Int64) (h10 : gI σ 10 = nI K) (hK : K ≤ 7) (hg : g < 8) (hk9 : k < 9) (hv : v < 10000) (hs : xStk σ s) (hl : s.length < 400)
    (hf : 1 ≤ k → k ≤ 3 → v < 6 ∧ gB σ (36 + k) (8 * v + g) = fig k v) (hp : k = 4 → v < K ∧ gB σ 45 (8 * v + g) = val v) (h2 : 5 ≤ k → 2 ≤ s.length) :
    ∃ σ', fX8_perform (xopOf k) (nI v) (nI g) σ = some σ' ∧ fr [14] [] [46] σ σ' ∧ xStk σ' (stepL fig val k v s) := by
  unfold fX8_perform
  simp only [lt_def]
  rcases (show k = 0 ∨ (1 ≤ k ∧ k ≤ 3) ∨ k = 4 ∨ 5 ≤ k by omega) with rfl | ⟨a1, a3⟩ | rfl | a5
  · rw [if_neg (show ¬ xopOf 0 = 256 by decide), if_pos (show xopOf 0 = 257 by decide)]
    obtain ⟨σ', r1, r2, r3⟩ := xPush (nI v).toInt64 hs hl
    rw [r1, Option.bind_some]
    exact ⟨σ', rfl, r2, r3⟩
  · obtain ⟨f1, f2⟩ := hf a1 a3
    obtain ⟨σ', r1, r2, r3⟩ := xPush (fig k v) hs hl
    have e : stepL fig val k v s = fig k v :: s := by
      unfold stepL leafL
      rw [if_pos (by omega), if_neg (by omega), if_neg (by omega)]
    rw [e]
    rcases (show k = 1 ∨ k = 2 ∨ k = 3 by omega) with rfl | rfl | rfl
    · rw [xFig fig a1 a3 f1 hg f2, Option.bind_some, r1, Option.bind_some]
      simp only [show xopOf 1 = 265 by decide]
      exact ⟨σ', rfl, r2, r3⟩
    · rw [xFig fig a1 a3 f1 hg f2, Option.bind_some, r1, Option.bind_some]
      simp only [show xopOf 2 = 266 by decide]
      exact ⟨σ', rfl, r2, r3⟩
    · rw [xFig fig a1 a3 f1 hg f2, Option.bind_some, r1, Option.bind_some]
      simp only [show xopOf 3 = 267 by decide]
      exact ⟨σ', rfl, r2, r3⟩
  · obtain ⟨p1, p2⟩ := hp rfl
    rw [if_pos (show xopOf 4 = 256 by decide)]
    have hst : fX4_hasStep (nI v) σ = some (1, σ) := by
      unfold fX4_hasStep
      rw [if_neg (nI_pos (by omega)), h10, if_neg (nI_ge p1 (by omega)), show (7 : Int32) = nI 7 from rfl, if_neg (nI_ge (by omega) (by decide))]
    rw [hst, Option.bind_some]
    simp only [if_neg one_ne]
    rw [r8, if_pos (ix_nI (show 8 * v + g < 56 by omega) (by decide)), ldB_nI _ _ _ (by omega), p2]
    obtain ⟨σ', r1, r2, r3⟩ := xPush (val v) hs hl
    rw [r1, Option.bind_some]
    exact ⟨σ', rfl, r2, r3⟩
  · have hlen := h2 a5
    match s, hs, hl, hlen with
    | [], _, _, hlen => simp at hlen
    | [_], _, _, hlen => simp at hlen
    | y :: x :: r, hs, hl, _ =>
      simp only [List.length_cons] at hl
      obtain ⟨σ1, q1, q2, q3⟩ := xPop y hs (by rw [List.length_cons]; omega)
      obtain ⟨σ2, t1, t2, t3⟩ := xPop x q3 (by omega)
      obtain ⟨σ3, u1, u2, u3⟩ := xPush (opL k x y) t3 (by omega)
      have e : stepL fig val k v (y :: x :: r) = opL k x y :: r := by
        unfold stepL
        rw [if_neg (by omega)]
      rw [e, q1, Option.bind_some, t1, Option.bind_some, xJoin a5 hk9, Option.bind_some, u1, Option.bind_some]
      refine ⟨σ3, ?_, fr_tr q2 (fr_tr t2 u2), u3⟩
      rcases (show k = 5 ∨ k = 6 ∨ k = 7 ∨ k = 8 by omega) with rfl | rfl | rfl | rfl
      · simp only [show xopOf 5 = 43 by decide]; rfl
      · simp only [show xopOf 6 = 45 by decide]; rfl
      · simp only [show xopOf 7 = 42 by decide]; rfl
      · simp only [show xopOf 8 = 268 by decide]; rfl
