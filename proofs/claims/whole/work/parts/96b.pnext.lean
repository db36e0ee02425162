/-! ===== PURE: the class's next queue ===== -/
def XL (l : List Nat) (σ : ST) : Prop := gI σ 22 = nI l.length ∧ (∀ i, i < l.length → gA σ 63 i = nI (l.getD i 0)) ∧ l.length ≤ 7 ∧ ∀ i, i < l.length → l.getD i 0 < 7
theorem XL_swp {l : List Nat} {σ : ST} {i j : Nat} (h : XL l σ) (hi : i < l.length) (hj : j < l.length) : stA (stA σ 63 (nI i) (ldA σ 63 (nI j))) 63 (nI j) (ldA σ 63 (nI i)) = sA σ 63 (upd (upd (gA σ 63) i (gA σ 63 j)) j (gA σ 63 i)) ∧ XL (swp l i j) (sA σ 63 (upd (upd (gA σ 63) i (gA σ 63 j)) j (gA σ 63 i))) := by
  obtain ⟨h1, h2, h3, h4⟩ := h
  constructor
  · rw [ldA_nI _ 63 j (by omega), ldA_nI _ 63 i (by omega), stA_nI _ 63 i _ (by omega), stA_nI _ 63 j _ (by omega), gA_sA, if_pos rfl, sA_sA]
  · refine ⟨by rw [swp_len]; exact h1, fun k hk => ?_, by rw [swp_len]; exact h3, fun k hk => ?_⟩
    · rw [swp_len] at hk
      show upd (upd (gA σ 63) i (gA σ 63 j)) j (gA σ 63 i) k = _
      rw [swp_get l i j k hi hj, upd_at, upd_at]
      by_cases c : k = j
      · rw [if_pos c, if_pos c, h2 i hi]
      · rw [if_neg c, if_neg c]
        by_cases e : k = i
        · rw [if_pos e, if_pos e, h2 j hj]
        · rw [if_neg e, if_neg e, h2 k hk]
    · rw [swp_len] at hk
      rw [swp_get l i j k hi hj]
      split
      · exact h4 i hi
      · split
        · exact h4 j hj
        · exact h4 k hk
theorem xLeast {l : List Nat} {σ : ST} {i : Nat} (h : XL l σ) (hi7 : i < 7) (hn : l.Nodup) : ∀ d j n, j + d = l.length → i < j → d < n →
    ((∀ q, i < q → q < j → l.getD q 0 ≤ l.getD i 0) → ((∀ q, i < q → q < l.length → l.getD q 0 ≤ l.getD i 0) ∧ fX1_leastAbove_L6 n (nI i) (-1) (nI j) σ = some (-1, σ)) ∨ ∃ f, i < f ∧ f < l.length ∧ l.getD i 0 < l.getD f 0 ∧ (∀ q, i < q → q < l.length → l.getD i 0 < l.getD q 0 → l.getD f 0 ≤ l.getD q 0) ∧ fX1_leastAbove_L6 n (nI i) (-1) (nI j) σ = some (nI f, σ)) ∧
    (∀ g, i < g → g < j → l.getD i 0 < l.getD g 0 → (∀ q, i < q → q < j → l.getD i 0 < l.getD q 0 → l.getD g 0 ≤ l.getD q 0) → ∃ f, i < f ∧ f < l.length ∧ l.getD i 0 < l.getD f 0 ∧ (∀ q, i < q → q < l.length → l.getD i 0 < l.getD q 0 → l.getD f 0 ≤ l.getD q 0) ∧ fX1_leastAbove_L6 n (nI i) (nI g) (nI j) σ = some (nI f, σ)) := by
  obtain ⟨h1, h2, h3, h4⟩ := h
  intro d
  induction d with
  | zero =>
    intro j n hj hij hn'
    obtain ⟨m, rfl⟩ : ∃ m, n = m + 1 := ⟨n - 1, by omega⟩
    have e : ∀ x, fX1_leastAbove_L6 (m + 1) (nI i) x (nI j) σ = some (x, σ) := fun x => by rw [fX1_leastAbove_L6, h1, if_pos (nI_le (by omega) (by omega))]
    refine ⟨fun hq => Or.inl ⟨fun q q1 q2 => hq q q1 (by omega), e _⟩, fun g g1 g2 g3 g4 => ⟨g, g1, by omega, g3, fun q q1 q2 => g4 q q1 (by omega), e _⟩⟩
  | succ d ih =>
    intro j n hj hij hn'
    obtain ⟨m, rfl⟩ : ∃ m, n = m + 1 := ⟨n - 1, by omega⟩
    obtain ⟨i1, i2⟩ := ih (j + 1) m (by omega) (by omega) (by omega)
    have hjl : j < l.length := by omega
    have j7 : ix (nI j) 7 := ix_nI (by omega) (by decide)
    have i7 : ix (nI i) 7 := ix_nI hi7 (by decide)
    have hil : i < l.length := by omega
    have hvj := h4 j hjl
    have hvi := h4 i hil
    have unf : ∀ x, fX1_leastAbove_L6 (m + 1) (nI i) x (nI j) σ = if nI (l.getD j 0) ≤ nI (l.getD i 0) then fX1_leastAbove_L6 m (nI i) x (nI (j + 1)) σ else if x = -1 then fX1_leastAbove_L6 m (nI i) (nI j) (nI (j + 1)) σ else if ix x 7 then (if ldA σ 63 x ≤ nI (l.getD j 0) then fX1_leastAbove_L6 m (nI i) x (nI (j + 1)) σ else fX1_leastAbove_L6 m (nI i) (nI j) (nI (j + 1)) σ) else none := by
      intro x
      rw [fX1_leastAbove_L6, h1, if_neg (nI_ge hjl (by omega))]
      simp only [if_pos j7, if_pos i7, lt_def, nI_1, ldA_nI _ _ j (show j < 2 ^ 31 by omega), ldA_nI _ _ i (show i < 2 ^ 31 by omega), h2 j hjl, h2 i hil]
    by_cases c : l.getD j 0 ≤ l.getD i 0
    · have hc : nI (l.getD j 0) ≤ nI (l.getD i 0) := nI_le c (by omega)
      refine ⟨fun hq => ?_, fun g g1 g2 g3 g4 => ?_⟩
      · rw [unf, if_pos hc]
        exact i1 (fun q q1 q2 => by
          rcases Nat.lt_or_ge q j with z | z
          · exact hq q q1 z
          · rw [show q = j by omega]; exact c)
      · rw [unf, if_pos hc]
        exact i2 g g1 (by omega) g3 (fun q q1 q2 q3 => by
          rcases Nat.lt_or_ge q j with z | z
          · exact g4 q q1 z q3
          · rw [show q = j by omega] at q3; omega)
    · have hc : ¬ nI (l.getD j 0) ≤ nI (l.getD i 0) := nI_ge (by omega) (by omega)
      refine ⟨fun hq => ?_, fun g g1 g2 g3 g4 => ?_⟩
      · rw [unf, if_neg hc, if_pos rfl]
        right
        exact i2 j hij (by omega) (by omega) (fun q q1 q2 q3 => by
          rcases Nat.lt_or_ge q j with z | z
          · have := hq q q1 z; omega
          · rw [show q = j by omega]; exact Nat.le_refl _)
      · have hvg := h4 g (by omega)
        rw [unf, if_neg hc, if_neg (nI_ne_m1 (by omega)), if_pos (ix_nI (show g < 7 by omega) (by decide)), ldA_nI _ 63 g (by omega), h2 g (by omega)]
        by_cases e : l.getD g 0 ≤ l.getD j 0
        · rw [if_pos (nI_le e (by omega))]
          exact i2 g g1 (by omega) g3 (fun q q1 q2 q3 => by
            rcases Nat.lt_or_ge q j with z | z
            · exact g4 q q1 z q3
            · rw [show q = j by omega]; exact e)
        · rw [if_neg (nI_ge (by omega) (by omega))]
          exact i2 j hij (by omega) (by omega) (fun q q1 q2 q3 => by
            rcases Nat.lt_or_ge q j with z | z
            · have := g4 q q1 z q3; omega
            · rw [show q = j by omega]; exact Nat.le_refl _)
/-- sorting behind a place -/
def srt (l : List Nat) (i a : Nat) : Prop := ∀ p c, i < p → p < a → p < c → c < l.length → l.getD p 0 ≤ l.getD c 0
theorem xSortIn {i a : Nat} (hia : i < a) (k73 : Int32 → ST → Option ST) : ∀ d b n l σ, b + d = l.length → a < b → d < n → XL l σ → srt l i a → (∀ c, a < c → c < b → l.getD a 0 ≤ l.getD c 0) → ∃ l' σ', fX1_sortBehind_L16 k73 n (nI a) (nI b) σ = k73 (nI a) σ' ∧ fr [] [63] [] σ σ' ∧ XL l' σ' ∧ l'.Perm l ∧ (∀ p, p < a → l'.getD p 0 = l.getD p 0) ∧ srt l' i (a + 1) := by
  intro d
  induction d with
  | zero =>
    intro b n l σ hb hab hn hX hs hc
    obtain ⟨m, rfl⟩ : ∃ m, n = m + 1 := ⟨n - 1, by omega⟩
    obtain ⟨h1, h2, h3, h4⟩ := id hX
    refine ⟨l, σ, ?_, fr_rf, hX, List.Perm.refl _, fun _ _ => rfl, fun p c p1 p2 p3 p4 => ?_⟩
    · rw [fX1_sortBehind_L16, h1, if_pos (nI_le (by omega) (by omega))]
    · rcases Nat.lt_or_ge p a with z | z
      · exact hs p c p1 z p3 p4
      · rw [show p = a by omega]; exact hc c (by omega) (by omega)
  | succ d ih =>
    intro b n l σ hb hab hn hX hs hc
    obtain ⟨m, rfl⟩ : ∃ m, n = m + 1 := ⟨n - 1, by omega⟩
    obtain ⟨h1, h2, h3, h4⟩ := id hX
    have hbl : b < l.length := by omega
    have hal : a < l.length := by omega
    have b7 : ix (nI b) 7 := ix_nI (by omega) (by decide)
    have a7 : ix (nI a) 7 := ix_nI (by omega) (by decide)
    have hva := h4 a hal
    have hvb := h4 b hbl
    obtain ⟨w1, w2⟩ := XL_swp hX hal hbl
    rw [fX1_sortBehind_L16, h1, if_neg (nI_ge hbl (by omega)), if_pos b7, if_pos a7]
    simp only [if_pos b7, if_pos a7, lt_def]
    rw [w1, ldA_nI _ 63 a (by omega), ldA_nI _ 63 b (by omega), h2 a hal, h2 b hbl]
    by_cases c : l.getD a 0 ≤ l.getD b 0
    · rw [if_pos (nI_le c (by omega)), nI_1]
      exact ih (b + 1) m l σ (by omega) (by omega) (by omega) hX hs (fun q q1 q2 => by
        rcases Nat.lt_or_ge q b with z | z
        · exact hc q q1 z
        · rw [show q = b by omega]; exact c)
    · rw [if_neg (nI_ge (by omega) (by omega)), nI_1]
      rw [h2 a hal, h2 b hbl] at w2
      have gt := fun k => swp_get l a b k hal hbl
      obtain ⟨l', σ', r1, r2, r3, r4, r5, r6⟩ := ih (b + 1) m (swp l a b) (sA σ 63 (upd (upd (gA σ 63) a (nI (l.getD b 0))) b (nI (l.getD a 0)))) (by rw [swp_len]; omega) (by omega) (by omega) w2 (fun p q p1 p2 p3 p4 => by
        rw [swp_len] at p4
        rw [gt p, gt q, if_neg (by omega), if_neg (by omega)]
        split
        · exact hs p a p1 p2 (by omega) (by omega)
        · split
          · exact hs p b p1 p2 (by omega) (by omega)
          · exact hs p q p1 p2 p3 p4) (fun q q1 q2 => by
        rw [gt a, gt q, if_neg (by omega), if_pos rfl]
        by_cases z : q = b
        · rw [if_pos z]; omega
        · rw [if_neg z, if_neg (by omega)]
          have := hc q q1 (by omega); omega)
      refine ⟨l', σ', r1, fr_tr (fr_sA fr_rf (by decide)) r2, r3, r4.trans (swp_perm l a b hal hbl), fun p hp => ?_, r6⟩
      rw [r5 p hp, gt p, if_neg (by omega), if_neg (by omega)]
theorem xSortOut {i : Nat} : ∀ d a n l σ, a + d = l.length → i < a → d + 20 < n → XL l σ → srt l i a → ∃ l' σ', fX1_sortBehind_L4 n (nI a) σ = some σ' ∧ fr [] [63] [] σ σ' ∧ XL l' σ' ∧ l'.Perm l ∧ (∀ p, p ≤ i → l'.getD p 0 = l.getD p 0) ∧ srt l' i l'.length := by
  intro d
  induction d with
  | zero =>
    intro a n l σ ha hia hn hX hs
    obtain ⟨m, rfl⟩ : ∃ m, n = m + 1 := ⟨n - 1, by omega⟩
    obtain ⟨h1, h2, h3, h4⟩ := id hX
    refine ⟨l, σ, ?_, fr_rf, hX, List.Perm.refl _, fun _ _ => rfl, ?_⟩
    · rw [fX1_sortBehind_L4, h1, if_pos (nI_le (by omega) (by omega))]
    · rw [← show a = l.length by omega]; exact hs
  | succ d ih =>
    intro a n l σ ha hia hn hX hs
    obtain ⟨m, rfl⟩ : ∃ m, n = m + 1 := ⟨n - 1, by omega⟩
    obtain ⟨h1, h2, h3, h4⟩ := id hX
    rw [fX1_sortBehind_L4, h1, if_neg (nI_ge (by omega) (by omega))]
    simp only [lt_def]
    obtain ⟨l1, σ1, r1, r2, r3, r4, r5, r6⟩ := xSortIn hia (fun (x2_17 : Int32) (σ_18 : ST) => (fX1_sortBehind_L4 m (x2_17 + 1) σ_18)) (l.length - (a + 1)) (a + 1) m l σ (by omega) (by omega) (by omega) hX hs (fun c c1 c2 => by omega)
    rw [nI_1, r1, nI_1]
    have hl1 := r4.length_eq
    obtain ⟨l', σ', s1, s2, s3, s4, s5, s6⟩ := ih (a + 1) m l1 σ1 (by omega) (by omega) (by omega) r3 r6
    exact ⟨l', σ', s1, fr_tr r2 s2, s3, s4.trans r4, fun p hp => by rw [s5 p hp, r5 p (by omega)], s6⟩
theorem xNextL {l : List Nat} {σ : ST} {D : Nat} (hX : XL l σ) (hn : l.Nodup) (hD : D ≤ 7) (n0 : Nat) (hn0 : 100 ≤ n0) : ∀ i n, i ≤ D → i + 50 < n → (∀ p j, i ≤ p → p < D → p < j → j < l.length → l.getD j 0 ≤ l.getD p 0) →
    (noNext D l ∧ fX1_nextQueue_L7 (fun (x1_7 : Int32) (x2_8 : Int32) (σ_9 : ST) => (if ix x1_7 7 then (lt (ldA σ_9 63 x1_7) (fun x3_11 => (if ix x2_8 7 then (if ix x1_7 7 then (lt (stA σ_9 63 x1_7 (ldA σ_9 63 x2_8)) (fun σ_14 => (if ix x2_8 7 then (lt (stA σ_14 63 x2_8 x3_11) (fun σ_16 => (Option.bind (fX1_sortBehind n0 x1_7 σ_16) (fun q_17 => (some ((1 : Int32), q_17)))))) else none))) else none) else none))) else none)) n (nI i - 1) σ = some (0, σ)) ∨ ∃ l' σ', nextOf D l l' ∧ l'.Perm l ∧ XL l' σ' ∧ fr [] [63] [] σ σ' ∧ fX1_nextQueue_L7 (fun (x1_7 : Int32) (x2_8 : Int32) (σ_9 : ST) => (if ix x1_7 7 then (lt (ldA σ_9 63 x1_7) (fun x3_11 => (if ix x2_8 7 then (if ix x1_7 7 then (lt (stA σ_9 63 x1_7 (ldA σ_9 63 x2_8)) (fun σ_14 => (if ix x2_8 7 then (lt (stA σ_14 63 x2_8 x3_11) (fun σ_16 => (Option.bind (fX1_sortBehind n0 x1_7 σ_16) (fun q_17 => (some ((1 : Int32), q_17)))))) else none))) else none) else none))) else none)) n (nI i - 1) σ = some (1, σ') := by
  obtain ⟨h1, h2, h3, h4⟩ := id hX
  intro i
  induction i with
  | zero =>
    intro n hi hn' hno
    obtain ⟨m, rfl⟩ : ∃ m, n = m + 1 := ⟨n - 1, by omega⟩
    left
    refine ⟨noNext_of (fun p j p1 p2 p3 => hno p j (Nat.zero_le _) p1 p2 p3), ?_⟩
    rw [fX1_nextQueue_L7, if_pos (show nI 0 - 1 < 0 by decide)]
  | succ i ih =>
    intro n hi hn' hno
    obtain ⟨m, rfl⟩ : ∃ m, n = m + 1 := ⟨n - 1, by omega⟩
    have hi7 : i < 7 := by omega
    rw [nI_pred, fX1_nextQueue_L7, if_neg (nI_pos (by omega))]
    have hla : fX1_leastAbove m (nI i) σ = fX1_leastAbove_L6 m (nI i) (-1) (nI (i + 1)) σ := by
      unfold fX1_leastAbove
      rw [lt_def, lt_def, nI_1]
    rw [hla]
    have hcase : (∀ q, i < q → q < l.length → l.getD q 0 ≤ l.getD i 0) ∧ fX1_leastAbove_L6 m (nI i) (-1) (nI (i + 1)) σ = some (-1, σ) ∨ ∃ f, i < f ∧ f < l.length ∧ l.getD i 0 < l.getD f 0 ∧ (∀ q, i < q → q < l.length → l.getD i 0 < l.getD q 0 → l.getD f 0 ≤ l.getD q 0) ∧ fX1_leastAbove_L6 m (nI i) (-1) (nI (i + 1)) σ = some (nI f, σ) := by
      rcases Nat.lt_or_ge i l.length with z | z
      · exact (xLeast hX hi7 hn (l.length - (i + 1)) (i + 1) m (by omega) (by omega) (by omega)).1 (fun q q1 q2 => by omega)
      · left
        refine ⟨fun q q1 q2 => by omega, ?_⟩
        obtain ⟨m', rfl⟩ : ∃ m', m = m' + 1 := ⟨m - 1, by omega⟩
        rw [fX1_leastAbove_L6, h1, if_pos (nI_le (by omega) (by omega))]
    rcases hcase with ⟨c1, c2⟩ | ⟨f, f1, f2, f3, f4, f5⟩
    · rw [c2, Option.bind_some]
      simp only [lt_def, if_true]
      rw [← Int32.sub_eq_add_neg]
      have hrec := ih m (by omega) (by omega) (fun p j p1 p2 p3 p4 => by
        rcases Nat.lt_or_ge i p with z | z
        · exact hno p j (by omega) p2 p3 p4
        · rw [show p = i by omega] at p3 ⊢; exact c1 j p3 p4)
      simp only [lt_def] at hrec
      exact hrec
    · rw [f5, Option.bind_some]
      simp only [lt_def]
      have hil : i < l.length := by omega
      rw [if_neg (nI_ne_m1 (by omega)), if_pos (ix_nI hi7 (by decide)), if_pos (ix_nI (show f < 7 by omega) (by decide)), if_pos (ix_nI hi7 (by decide)), if_pos (ix_nI (show f < 7 by omega) (by decide))]
      obtain ⟨w1, w2⟩ := XL_swp hX hil f2
      rw [w1]
      generalize hs1 : sA σ 63 (upd (upd (gA σ 63) i (gA σ 63 f)) f (gA σ 63 i)) = σ1 at w2
      have fr1 : fr [] [63] [] σ σ1 := by rw [← hs1]; exact fr_sA fr_rf (by decide)
      obtain ⟨l', σ', r1, r2, r3, r4, r5, r6⟩ := xSortOut (i := i) ((swp l i f).length - (i + 1)) (i + 1) n0 (swp l i f) σ1 (by rw [swp_len]; omega) (by omega) (by rw [swp_len]; omega) w2 (fun p c p1 p2 => by omega)
      right
      have hlen : l'.length = l.length := by rw [r4.length_eq, swp_len]
      have hsort : fX1_sortBehind n0 (nI i) σ1 = some σ' := by
        unfold fX1_sortBehind
        rw [lt_def, nI_1]; exact r1
      refine ⟨l', σ', ?_, r4.trans (swp_perm l i f hil f2), r3, fr_tr fr1 r2, ?_⟩
      · have gi : l'.getD i 0 = l.getD f 0 := by rw [r5 i (Nat.le_refl _), swp_get l i f i hil f2, if_neg (by omega), if_pos rfl]
        refine nextOf_of (i := i) (by omega) hil hlen (fun p hp => ?_) (by rw [gi]; exact f3) (fun j j1 j2 j3 => by rw [gi]; exact f4 j j1 j2 j3) (fun p j p1 p2 p3 p4 => hno p j (by omega) p2 p3 p4) (fun p j p1 p2 p3 => r6 p j p1 (by omega) p2 (by omega))
        rw [r5 p (by omega), swp_get l i f p hil f2, if_neg (by omega), if_neg (by omega)]
      · rw [hsort, Option.bind_some]
