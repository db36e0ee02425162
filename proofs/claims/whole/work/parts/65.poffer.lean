/-! ===== PURE: a report is offered to a reader ===== -/
/-- does anything of eight from g on differ? -/
def dfr (seen last : Nat → Int64) (o : Nat) : Nat → Nat → Bool
  | _, 0 => false
  | g, d + 1 => decide (seen g ≠ last (o + g)) || dfr seen last o (g + 1) d
theorem dfr_cg {seen last last' : Nat → Int64} {o : Nat} : ∀ d g, (∀ q, g ≤ q → q < g + d → last (o + q) = last' (o + q)) → dfr seen last o g d = dfr seen last' o g d := by
  intro d
  induction d with
  | zero => intro g _; rfl
  | succ d ih =>
    intro g h
    rw [dfr, dfr, h g (Nat.le_refl g) (by omega), ih (g + 1) (fun q h1 h2 => h q (by omega) (by omega))]
theorem lgc_eq (x y : Int64) : (lg_cmp x y = 0) ↔ x = y := by
  unfold lg_cmp
  by_cases h : x > y
  · rw [if_pos h]
    constructor
    · intro q; exact absurd q (by decide)
    · intro q; subst q
      rw [gt_iff_lt, Int64.lt_iff_toInt_lt] at h; omega
  · rw [if_neg h]
    by_cases e : x = y
    · rw [if_pos e]; exact iff_of_true rfl e
    · rw [if_neg e]
      exact iff_of_false (by decide) e
def seenOf (rt : Nat) (val : Nat → Int64) (k : Nat) : Nat → Int64 := fun g => if rt.testBit g then val (8 * k + g) else 0
theorem xOfferL {k r rt : Nat} {val : Nat → Int64} (hk : k < 7) (hr : r < 6) (hrt : rt < 256) (k148 : Int32 → Int32 → ST → Option ST) :
    ∀ d g n σ (b : Bool), g + d = 8 → d < n → gA σ 48 r = nI rt → (∀ q, q < 8 → gB σ 45 (8 * k + q) = val (8 * k + q)) → ∃ σ', fX3_offer_L44 k148 n (nI k) (nI r) (nI (6 * k + r)) (if b = true then 1 else 0) (nI g) σ = k148 (nI (6 * k + r)) (if (b || dfr (seenOf rt val k) (gB σ 51) (8 * (6 * k + r)) g d) = true then 1 else 0) σ' ∧ fr [] [] [51] σ σ' ∧ ∀ i, gB σ' 51 i = if 8 * (6 * k + r) + g ≤ i ∧ i < 8 * (6 * k + r) + 8 then seenOf rt val k (i - 8 * (6 * k + r)) else gB σ 51 i := by
  intro d
  induction d with
  | zero =>
    intro g n σ b hg hn h48 h45
    obtain ⟨m, rfl⟩ : ∃ m, n = m + 1 := ⟨n - 1, by omega⟩
    have : g = 8 := by omega
    subst this
    refine ⟨σ, ?_, fr_rf, fun i => ?_⟩
    · rw [fX3_offer_L44, show (8 : Int32) = nI 8 from rfl, if_pos (nI_le (Nat.le_refl 8) (by decide)), dfr, Bool.or_false]
    · rw [if_neg (by omega)]
  | succ d ih =>
    intro g n σ b hg hn h48 h45
    obtain ⟨m, rfl⟩ : ∃ m, n = m + 1 := ⟨n - 1, by omega⟩
    have hg8 : g < 8 := by omega
    have hi : 8 * (6 * k + r) + g < 336 := by omega
    have i336 : ix (nI (8 * (6 * k + r) + g)) 336 := ix_nI hi (by decide)
    have i56 : ix (nI (8 * k + g)) 56 := ix_nI (by omega) (by decide)
    have hbit := bit_zero (b := rt) (k := g) (by omega) (by omega)
    -- the step, whatever is seen
    have key : ∀ (s : Int64) (b' : Bool), s = seenOf rt val k g → b' = (b || decide (seenOf rt val k g ≠ gB σ 51 (8 * (6 * k + r) + g))) → ∃ σ', fX3_offer_L44 k148 m (nI k) (nI r) (nI (6 * k + r)) (if b' = true then 1 else 0) (nI (g + 1)) (sB σ 51 (vp_updL (gB σ 51) (8 * (6 * k + r) + g) s)) = k148 (nI (6 * k + r)) (if (b || dfr (seenOf rt val k) (gB σ 51) (8 * (6 * k + r)) g (d + 1)) = true then 1 else 0) σ' ∧ fr [] [] [51] σ σ' ∧ ∀ i, gB σ' 51 i = if 8 * (6 * k + r) + g ≤ i ∧ i < 8 * (6 * k + r) + 8 then seenOf rt val k (i - 8 * (6 * k + r)) else gB σ 51 i := by
      intro s b' hs hb'
      obtain ⟨σ', r1, r2, r3⟩ := ih (g + 1) m (sB σ 51 (vp_updL (gB σ 51) (8 * (6 * k + r) + g) s)) b' (by omega) (by omega) h48 h45
      refine ⟨σ', ?_, fr_tr (fr_sB fr_rf (by decide)) r2, fun i => ?_⟩
      · rw [r1, hb', dfr, Bool.or_assoc, dfr_cg (last := gB (sB σ 51 (vp_updL (gB σ 51) (8 * (6 * k + r) + g) s)) 51) (last' := gB σ 51) d (g + 1) (fun q h1 h2 => by rw [gB_sB, if_pos rfl, updL_at, if_neg (by omega)])]
      · rw [r3 i, gB_sB, if_pos rfl, updL_at]
        by_cases e : i = 8 * (6 * k + r) + g
        · rw [if_neg (by omega), if_pos e, if_pos (by omega), hs, show i - 8 * (6 * k + r) = g by omega]
        · rw [if_neg e]
          by_cases c : 8 * (6 * k + r) + g ≤ i ∧ i < 8 * (6 * k + r) + 8
          · rw [if_pos (by omega), if_pos c]
          · rw [if_neg (by omega), if_neg c]
    rw [fX3_offer_L44, if_neg (show ¬ (8 : Int32) ≤ nI g from nI_ge hg8 (by decide)), if_pos (ix_nI hr (by decide)), ldA_nI _ _ _ (by omega), h48]
    simp only [lt_def, r8, if_pos i336, if_pos i56, ldB_nI _ _ (8 * k + g) (show 8 * k + g < 2 ^ 31 by omega), ldB_nI _ _ (8 * (6 * k + r) + g) (show 8 * (6 * k + r) + g < 2 ^ 31 by omega), stB_nI _ _ (8 * (6 * k + r) + g) _ (show 8 * (6 * k + r) + g < 2 ^ 31 by omega), nI_1, h45 g hg8, lgc_eq, pif]
    by_cases ht : rt.testBit g = true
    · have hs : seenOf rt val k g = val (8 * k + g) := by unfold seenOf; rw [if_pos ht]
      rw [if_neg (fun q => by rw [hbit, ht] at q; cases q), if_neg one_ne]
      cases b with
      | true =>
        rw [if_pos rfl]
        exact key _ true hs.symm (by simp)
      | false =>
        rw [if_neg (by decide)]
        by_cases e : val (8 * k + g) = gB σ 51 (8 * (6 * k + r) + g)
        · rw [if_pos e]
          exact key _ false hs.symm (by rw [hs]; simp [e])
        · rw [if_neg e]
          exact key _ true hs.symm (by rw [hs]; simp [e])
    · have hs : seenOf rt val k g = 0 := by unfold seenOf; rw [if_neg ht]
      rw [if_pos (hbit.mpr (by simpa using ht)), if_pos trivial]
      cases b with
      | true =>
        rw [if_pos rfl]
        exact key _ true hs.symm (by simp)
      | false =>
        rw [if_neg (by decide)]
        by_cases e : (0 : Int64) = gB σ 51 (8 * (6 * k + r) + g)
        · rw [if_pos e]
          exact key _ false hs.symm (by rw [hs]; simp [← e])
        · rw [if_neg e]
          exact key _ true hs.symm (by rw [hs]; simp [e])
