/-! ===== PURE: a report is sent, the reference ===== -/
theorem bit_one {b k : Nat} (hb : b < 2 ^ 31) (hk : k < 32) : ((nI b >>> (nI k &&& 31)) &&& 1 = 1) ↔ b.testBit k = true := by
  rw [bit_get hb hk]
  cases b.testBit k <;> simp
theorem mSendL {k r rt : Nat} {val : Nat → Int64} (hk : k < 7) (hr : r < 6) (hrt : rt < 256) (k112 : Int32 → Int32 → Int32 → Int32 → ST → Option ST) :
    ∀ d g n τ (b : Bool), g + d = 8 → d < n → gA τ 31 r = nI rt → (∀ q, q < 8 → gB τ 38 (8 * k + q) = val (8 * k + q)) → fX11_sends_L36 k112 n (nI k) (nI r) (nI (6 * k + r)) (if b = true then 1 else 0) (nI g) τ = k112 (nI k) (nI r) (nI (6 * k + r)) (if (b || dfr (seenOf rt val k) (gB τ 42) (8 * (6 * k + r)) g d) = true then 1 else 0) τ := by
  intro d
  induction d with
  | zero =>
    intro g n τ b hg hn h31 h38
    obtain ⟨m, rfl⟩ : ∃ m, n = m + 1 := ⟨n - 1, by omega⟩
    have : g = 8 := by omega
    subst this
    rw [fX11_sends_L36, show (8 : Int32) = nI 8 from rfl, if_pos (nI_le (Nat.le_refl 8) (by decide)), dfr, Bool.or_false]
  | succ d ih =>
    intro g n τ b hg hn h31 h38
    obtain ⟨m, rfl⟩ : ∃ m, n = m + 1 := ⟨n - 1, by omega⟩
    have hg8 : g < 8 := by omega
    have hi : 8 * (6 * k + r) + g < 336 := by omega
    have i336 : ix (nI (8 * (6 * k + r) + g)) 336 := ix_nI hi (by decide)
    have i56 : ix (nI (8 * k + g)) 56 := ix_nI (by omega) (by decide)
    have hbit := bit_one (b := rt) (k := g) (by omega) (by omega)
    have key : ∀ (b' : Bool), b' = (b || decide (seenOf rt val k g ≠ gB τ 42 (8 * (6 * k + r) + g))) → fX11_sends_L36 k112 m (nI k) (nI r) (nI (6 * k + r)) (if b' = true then 1 else 0) (nI (g + 1)) τ = k112 (nI k) (nI r) (nI (6 * k + r)) (if (b || dfr (seenOf rt val k) (gB τ 42) (8 * (6 * k + r)) g (d + 1)) = true then 1 else 0) τ := by
      intro b' hb'
      rw [ih (g + 1) m τ b' (by omega) (by omega) h31 h38, hb', dfr, Bool.or_assoc]
    rw [fX11_sends_L36, if_neg (show ¬ (8 : Int32) ≤ nI g from nI_ge hg8 (by decide)), if_pos (ix_nI hr (by decide)), ldA_nI _ _ _ (by omega), h31]
    simp only [lt_def, m8, if_pos i336, if_pos i56, ldB_nI _ _ (8 * k + g) (show 8 * k + g < 2 ^ 31 by omega), ldB_nI _ _ (8 * (6 * k + r) + g) (show 8 * (6 * k + r) + g < 2 ^ 31 by omega), nI_1, h38 g hg8, lgc_eq, pif]
    by_cases ht : rt.testBit g = true
    · have hs : seenOf rt val k g = val (8 * k + g) := by unfold seenOf; rw [if_pos ht]
      rw [if_pos (hbit.mpr ht)]
      cases b with
      | true =>
        rw [if_pos rfl]
        exact key true (by simp)
      | false =>
        rw [if_neg (by decide)]
        by_cases e : val (8 * k + g) = gB τ 42 (8 * (6 * k + r) + g)
        · rw [if_pos e]
          exact key false (by rw [hs]; simp [e])
        · rw [if_neg e]
          exact key true (by rw [hs]; simp [e])
    · have hs : seenOf rt val k g = 0 := by unfold seenOf; rw [if_neg ht]
      rw [if_neg (fun q => ht (hbit.mp q))]
      cases b with
      | true =>
        rw [if_pos rfl]
        exact key true (by simp)
      | false =>
        rw [if_neg (by decide)]
        by_cases e : (0 : Int64) = gB τ 42 (8 * (6 * k + r) + g)
        · rw [if_pos e]
          exact key false (by rw [hs]; simp [← e])
        · rw [if_neg e]
          exact key true (by rw [hs]; simp [e])
theorem mSendW {k r rt : Nat} {val : Nat → Int64} (hk : k < 7) (hr : r < 6) (hrt : rt < 256) (k177 : Int32 → ST → Option ST) :
    ∀ d g n τ, g + d = 8 → d < n → gA τ 31 r = nI rt → (∀ q, q < 8 → gB τ 38 (8 * k + q) = val (8 * k + q)) → ∃ τ', fX11_sends_L121 k177 n (nI k) (nI r) (nI (6 * k + r)) (nI g) τ = k177 (nI (6 * k + r)) τ' ∧ fr [] [] [42] τ τ' ∧ ∀ i, gB τ' 42 i = if 8 * (6 * k + r) + g ≤ i ∧ i < 8 * (6 * k + r) + 8 then seenOf rt val k (i - 8 * (6 * k + r)) else gB τ 42 i := by
  intro d
  induction d with
  | zero =>
    intro g n τ hg hn h31 h38
    obtain ⟨m, rfl⟩ : ∃ m, n = m + 1 := ⟨n - 1, by omega⟩
    have : g = 8 := by omega
    subst this
    refine ⟨τ, ?_, fr_rf, fun i => ?_⟩
    · rw [fX11_sends_L121, show (8 : Int32) = nI 8 from rfl, if_pos (nI_le (Nat.le_refl 8) (by decide))]
    · rw [if_neg (by omega)]
  | succ d ih =>
    intro g n τ hg hn h31 h38
    obtain ⟨m, rfl⟩ : ∃ m, n = m + 1 := ⟨n - 1, by omega⟩
    have hg8 : g < 8 := by omega
    have hi : 8 * (6 * k + r) + g < 336 := by omega
    have i336 : ix (nI (8 * (6 * k + r) + g)) 336 := ix_nI hi (by decide)
    have i56 : ix (nI (8 * k + g)) 56 := ix_nI (by omega) (by decide)
    have hbit := bit_one (b := rt) (k := g) (by omega) (by omega)
    have key : ∀ (s : Int64), s = seenOf rt val k g → ∃ τ', fX11_sends_L121 k177 m (nI k) (nI r) (nI (6 * k + r)) (nI (g + 1)) (sB τ 42 (vp_updL (gB τ 42) (8 * (6 * k + r) + g) s)) = k177 (nI (6 * k + r)) τ' ∧ fr [] [] [42] τ τ' ∧ ∀ i, gB τ' 42 i = if 8 * (6 * k + r) + g ≤ i ∧ i < 8 * (6 * k + r) + 8 then seenOf rt val k (i - 8 * (6 * k + r)) else gB τ 42 i := by
      intro s hs
      obtain ⟨τ', r1, r2, r3⟩ := ih (g + 1) m (sB τ 42 (vp_updL (gB τ 42) (8 * (6 * k + r) + g) s)) (by omega) (by omega) h31 h38
      refine ⟨τ', r1, fr_tr (fr_sB fr_rf (by decide)) r2, fun i => ?_⟩
      rw [r3 i, gB_sB, if_pos rfl, updL_at]
      by_cases e : i = 8 * (6 * k + r) + g
      · rw [if_neg (by omega), if_pos e, if_pos (by omega), hs, show i - 8 * (6 * k + r) = g by omega]
      · rw [if_neg e]
        by_cases c : 8 * (6 * k + r) + g ≤ i ∧ i < 8 * (6 * k + r) + 8
        · rw [if_pos (by omega), if_pos c]
        · rw [if_neg (by omega), if_neg c]
    rw [fX11_sends_L121, if_neg (show ¬ (8 : Int32) ≤ nI g from nI_ge hg8 (by decide)), if_pos (ix_nI hr (by decide)), ldA_nI _ _ _ (by omega), h31]
    simp only [lt_def, m8, if_pos i336, if_pos i56, ldB_nI _ _ (8 * k + g) (show 8 * k + g < 2 ^ 31 by omega), stB_nI _ _ (8 * (6 * k + r) + g) _ (show 8 * (6 * k + r) + g < 2 ^ 31 by omega), nI_1, h38 g hg8]
    by_cases ht : rt.testBit g = true
    · rw [if_pos (hbit.mpr ht)]
      exact key _ (by unfold seenOf; rw [if_pos ht])
    · rw [if_neg (fun q => ht (hbit.mp q))]
      exact key _ (by unfold seenOf; rw [if_neg ht])
