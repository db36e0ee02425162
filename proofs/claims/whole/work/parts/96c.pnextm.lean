/-! ===== PURE: the reference's next row ===== -/
def RLs (l : List Nat) (τ : ST) : Prop := (∀ i, i < l.length → gA τ 44 i = nI (l.getD i 0)) ∧ l.length ≤ 7 ∧ ∀ i, i < l.length → l.getD i 0 < 7
theorem RLs_swp {l : List Nat} {τ : ST} {i j : Nat} (h : RLs l τ) (hi : i < l.length) (hj : j < l.length) : stA (stA τ 44 (nI i) (ldA τ 44 (nI j))) 44 (nI j) (ldA τ 44 (nI i)) = sA τ 44 (upd (upd (gA τ 44) i (gA τ 44 j)) j (gA τ 44 i)) ∧ RLs (swp l i j) (sA τ 44 (upd (upd (gA τ 44) i (gA τ 44 j)) j (gA τ 44 i))) := by
  obtain ⟨h2, h3, h4⟩ := h
  constructor
  · rw [ldA_nI _ 44 j (by omega), ldA_nI _ 44 i (by omega), stA_nI _ 44 i _ (by omega), stA_nI _ 44 j _ (by omega), gA_sA, if_pos rfl, sA_sA]
  · refine ⟨fun k hk => ?_, by rw [swp_len]; exact h3, fun k hk => ?_⟩
    · rw [swp_len] at hk
      show upd (upd (gA τ 44) i (gA τ 44 j)) j (gA τ 44 i) k = _
      rw [swp_get l i j k hi hj, upd_at, upd_at]
      by_cases c : k = j
      · rw [if_pos c, if_pos c, h2 i hi]
      · rw [if_neg c, if_neg c]
        by_cases e : k = i
        · rw [if_pos e, if_pos e, h2 j hj]
        · rw [if_neg e, if_neg e, h2 k hk]
    · rw [swp_len] at hk
      rw [swp_get l i j k hi hj]
      split
      · exact h4 i hi
      · split
        · exact h4 j hj
        · exact h4 k hk
theorem mDesc {l : List Nat} {τ : ST} (hR : RLs l τ) (hn : l.Nodup) (k31 : Int32 → Int32 → ST → Option (Int32 × ST)) : ∀ i n, i + 1 ≤ l.length → i < n → (∀ p, i ≤ p → p + 1 < l.length → l.getD (p + 1) 0 < l.getD p 0) →
    ((∀ p, p + 1 < l.length → l.getD (p + 1) 0 < l.getD p 0) ∧ fX11_nextRow_L4 k31 n (nI l.length) (nI i - 1) τ = k31 (nI l.length) (nI 0 - 1) τ) ∨ ∃ p, p + 1 < l.length ∧ l.getD p 0 < l.getD (p + 1) 0 ∧ (∀ q, p < q → q + 1 < l.length → l.getD (q + 1) 0 < l.getD q 0) ∧ fX11_nextRow_L4 k31 n (nI l.length) (nI i - 1) τ = k31 (nI l.length) (nI p) τ := by
  obtain ⟨h2, h3, h4⟩ := id hR
  intro i
  induction i with
  | zero =>
    intro n hi hn' hd
    obtain ⟨m, rfl⟩ : ∃ m, n = m + 1 := ⟨n - 1, by omega⟩
    left
    refine ⟨fun p hp => hd p (Nat.zero_le _) hp, ?_⟩
    rw [fX11_nextRow_L4, if_pos (show nI 0 - 1 < 0 by decide)]
  | succ i ih =>
    intro n hi hn' hd
    obtain ⟨m, rfl⟩ : ∃ m, n = m + 1 := ⟨n - 1, by omega⟩
    have v1 := h4 i (by omega)
    have v2 := h4 (i + 1) (by omega)
    have hne := nd_get hn (show i < l.length by omega) (show i + 1 < l.length by omega) (by omega)
    rw [nI_pred, fX11_nextRow_L4, if_neg (nI_pos (by omega)), if_pos (ix_nI (show i < 7 by omega) (by decide)), nI_1, if_pos (ix_nI (show i + 1 < 7 by omega) (by decide)), ldA_nI _ 44 i (by omega), ldA_nI _ 44 (i + 1) (by omega), h2 i (by omega), h2 (i + 1) (by omega)]
    by_cases c : l.getD i 0 ≤ l.getD (i + 1) 0
    · rw [if_pos (nI_le c (by omega))]
      right
      exact ⟨i, by omega, by omega, fun q q1 q2 => hd q (by omega) q2, rfl⟩
    · rw [if_neg (nI_ge (by omega) (by omega)), lt_def, ← Int32.sub_eq_add_neg]
      exact ih m (by omega) (by omega) (fun p p1 p2 => by
        rcases Nat.lt_or_ge i p with z | z
        · exact hd p (by omega) p2
        · rw [show p = i by omega]; omega)
theorem mFar {l : List Nat} {τ : ST} {p : Nat} (hR : RLs l τ) (hn : l.Nodup) (hp : p + 1 < l.length) (hlt : l.getD p 0 < l.getD (p + 1) 0) (k62 : Int32 → Int32 → Int32 → ST → Option (Int32 × ST)) : ∀ d n, p + 1 + d < l.length → d < n → (∀ q, p + 1 + d < q → q < l.length → l.getD q 0 < l.getD p 0) → ∃ f, p < f ∧ f < l.length ∧ l.getD p 0 < l.getD f 0 ∧ (∀ q, f < q → q < l.length → l.getD q 0 < l.getD p 0) ∧ fX11_nextRow_L41 k62 n (nI l.length) (nI p) (nI (p + 1 + d)) τ = k62 (nI l.length) (nI p) (nI f) τ := by
  obtain ⟨h2, h3, h4⟩ := id hR
  intro d
  induction d with
  | zero =>
    intro n hd hn' hq
    obtain ⟨m, rfl⟩ : ∃ m, n = m + 1 := ⟨n - 1, by omega⟩
    refine ⟨p + 1, by omega, hp, hlt, hq, ?_⟩
    have v2 := h4 (p + 1) hp
    rw [Nat.add_zero, fX11_nextRow_L41, if_pos (ix_nI (show p + 1 < 7 by omega) (by decide)), if_pos (ix_nI (show p < 7 by omega) (by decide)), ldA_nI _ 44 p (by omega), ldA_nI _ 44 (p + 1) (by omega), h2 p (by omega), h2 (p + 1) hp, if_pos (nI_le (by omega) (by omega))]
  | succ d ih =>
    intro n hd hn' hq
    obtain ⟨m, rfl⟩ : ∃ m, n = m + 1 := ⟨n - 1, by omega⟩
    have v1 := h4 p (by omega)
    have v2 := h4 (p + 1 + (d + 1)) hd
    have hne := nd_get hn (show p < l.length by omega) hd (by omega)
    rw [fX11_nextRow_L41, if_pos (ix_nI (show p + 1 + (d + 1) < 7 by omega) (by decide)), if_pos (ix_nI (show p < 7 by omega) (by decide)), ldA_nI _ 44 p (by omega), ldA_nI _ 44 (p + 1 + (d + 1)) (by omega), h2 p (by omega), h2 _ hd]
    by_cases c : l.getD p 0 ≤ l.getD (p + 1 + (d + 1)) 0
    · rw [if_pos (nI_le c (by omega))]
      exact ⟨p + 1 + (d + 1), by omega, hd, by omega, hq, rfl⟩
    · rw [if_neg (nI_ge (by omega) (by omega)), lt_def, ← Nat.add_assoc, nI_dec]
      exact ih m (by omega) (by omega) (fun q q1 q2 => by
        rcases Nat.lt_or_ge (p + 1 + (d + 1)) q with z | z
        · exact hq q z q2
        · rw [show q = p + 1 + (d + 1) by omega]; omega)
theorem mRev : ∀ d u v n l τ, v ≤ u + d → u ≤ v + 1 → v < l.length → d < n → RLs l τ → ∃ l' τ', fX11_nextRow_L100 n (nI u) (nI v) τ = some (1, τ') ∧ fr [] [44] [] τ τ' ∧ RLs l' τ' ∧ l'.Perm l ∧ (∀ q, ¬ (u ≤ q ∧ q ≤ v) → l'.getD q 0 = l.getD q 0) ∧ (∀ q, u ≤ q → q ≤ v → l'.getD q 0 = l.getD (u + v - q) 0) := by
  intro d
  induction d with
  | zero =>
    intro u v n l τ h1 h2 h3 hn hR
    obtain ⟨m, rfl⟩ : ∃ m, n = m + 1 := ⟨n - 1, by omega⟩
    have := hR.2.1
    refine ⟨l, τ, ?_, fr_rf, hR, List.Perm.refl _, fun _ _ => rfl, fun q q1 q2 => ?_⟩
    · rw [fX11_nextRow_L100, if_pos (nI_le (by omega) (by omega))]
    · rw [show u + v - q = q by omega]
  | succ d ih =>
    intro u v n l τ h1 h2 h3 hn hR
    obtain ⟨m, rfl⟩ : ∃ m, n = m + 1 := ⟨n - 1, by omega⟩
    have h7 := hR.2.1
    rcases Nat.lt_or_ge u v with z | z
    · obtain ⟨w, rfl⟩ : ∃ w, v = w + 1 := ⟨v - 1, by omega⟩
      have hu : u < l.length := by omega
      obtain ⟨w1, w2⟩ := RLs_swp hR hu h3
      have iu : ix (nI u) 7 := ix_nI (by omega) (by decide)
      have iv : ix (nI (w + 1)) 7 := ix_nI (by omega) (by decide)
      rw [fX11_nextRow_L100, if_neg (nI_ge z (by omega))]
      simp only [if_pos iu, if_pos iv, lt_def]
      rw [w1, nI_1, nI_dec]
      obtain ⟨l', τ', r1, r2, r3, r4, r5, r6⟩ := ih (u + 1) w m (swp l u (w + 1)) _ (by omega) (by omega) (by rw [swp_len]; omega) (by omega) w2
      have gt := fun k => swp_get l u (w + 1) k hu h3
      refine ⟨l', τ', r1, fr_tr (fr_sA fr_rf (by decide)) r2, r3, r4.trans (swp_perm l u (w + 1) hu h3), fun q hq => ?_, fun q q1 q2 => ?_⟩
      · rw [r5 q (by omega), gt q, if_neg (by omega), if_neg (by omega)]
      · by_cases e1 : q = u
        · rw [r5 q (by omega), gt q, if_neg (by omega), if_pos e1, show u + (w + 1) - q = w + 1 by omega]
        · by_cases e2 : q = w + 1
          · rw [r5 q (by omega), gt q, if_pos e2, show u + (w + 1) - q = u by omega]
          · rw [r6 q (by omega) (by omega), gt _, if_neg (by omega), if_neg (by omega), show u + 1 + w - q = u + (w + 1) - q by omega]
    · refine ⟨l, τ, ?_, fr_rf, hR, List.Perm.refl _, fun _ _ => rfl, fun q q1 q2 => ?_⟩
      · rw [fX11_nextRow_L100, if_pos (nI_le z (by omega))]
      · rw [show u + v - q = q by omega]
theorem desc_all {l : List Nat} {p : Nat} (h : ∀ q, p ≤ q → q + 1 < l.length → l.getD (q + 1) 0 < l.getD q 0) : ∀ d a, p ≤ a → a + 1 + d < l.length → l.getD (a + 1 + d) 0 < l.getD a 0 := by
  intro d
  induction d with
  | zero => intro a h1 h2; exact h a h1 h2
  | succ d ih =>
    intro a h1 h2
    have e1 := ih a h1 (by omega)
    have e2 := h (a + 1 + d) (by omega) (by omega)
    rw [← Nat.add_assoc]; omega
theorem mNextRow {l : List Nat} {τ : ST} {n : Nat} (hnf : 100 ≤ n) (hR : RLs l τ) (hn : l.Nodup) : (noNext l.length l ∧ fX11_nextRow n (nI l.length) τ = some (0, τ)) ∨ ∃ l' τ', nextOf l.length l l' ∧ l'.Perm l ∧ RLs l' τ' ∧ fr [] [44] [] τ τ' ∧ fX11_nextRow n (nI l.length) τ = some (1, τ') := by
  obtain ⟨h2, h3, h4⟩ := id hR
  unfold fX11_nextRow
  simp only [lt_def]
  rcases Nat.eq_zero_or_pos l.length with z | z
  · left
    refine ⟨noNext_of (fun i j i1 i2 i3 => by omega), ?_⟩
    obtain ⟨m, rfl⟩ : ∃ m, n = m + 1 := ⟨n - 1, by omega⟩
    rw [z, fX11_nextRow_L4, if_pos (show nI 0 - 2 < 0 by decide), if_neg (by decide)]
  · obtain ⟨L, hL⟩ : ∃ L, l.length = L + 1 := ⟨l.length - 1, by omega⟩
    have e2 : nI l.length - 2 = nI L - 1 := by
      rw [hL]
      rcases Nat.eq_zero_or_pos L with y | y
      · subst y; rfl
      · rw [show (2 : Int32) = nI 2 from rfl, pk_sub (by omega), show (1 : Int32) = nI 1 from rfl, pk_sub (by omega)]
        congr 1
    rw [e2]
    rcases mDesc hR hn (fun (x1_7 : Int32) (x2_8 : Int32) (σ_9 : ST) => (if 0 ≤ x2_8 then (fX11_nextRow_L41 (fun (x1_16 : Int32) (x2_17 : Int32) (x3_18 : Int32) (σ_19 : ST) => (if ix x2_17 7 then (if ix x3_18 7 then (if ix x2_17 7 then (if ix x3_18 7 then (fX11_nextRow_L100 n (x2_17 + ((1 : Int32))) (x1_16 - ((1 : Int32))) (stA (stA σ_19 44 x2_17 (ldA σ_19 44 x3_18)) 44 x3_18 (ldA σ_19 44 x2_17))) else none) else none) else none) else none)) n x1_7 x2_8 (x1_7 - ((1 : Int32))) σ_9) else (some ((0 : Int32), σ_9)))) L n (by omega) (by omega) (fun p p1 p2 => by omega) with ⟨c1, c2⟩ | ⟨p, p1, p2, p3, p4⟩
    · left
      have hd := desc_all (p := 0) (fun q _ hq => c1 q hq)
      refine ⟨noNext_of (fun i j i1 i2 i3 => ?_), ?_⟩
      · have := hd (j - (i + 1)) i (Nat.zero_le _) (by omega)
        rw [show i + 1 + (j - (i + 1)) = j by omega] at this; omega
      · rw [c2]
        show (if (0 : Int32) ≤ nI 0 - 1 then _ else some ((0 : Int32), τ)) = _
        rw [if_neg (by decide)]
    · right
      have hd := desc_all (p := p + 1) (fun q q1 q2 => p3 q (by omega) q2)
      have hd' : ∀ x y, p < x → x < y → y < l.length → l.getD y 0 < l.getD x 0 := fun x y x1 x2 x3 => by
        have := hd (y - (x + 1)) x (by omega) (by omega)
        rw [show x + 1 + (y - (x + 1)) = y by omega] at this; exact this
      obtain ⟨f, f1, f2, f3, f4, f5⟩ := mFar hR hn p1 p2 (fun (x1_16 : Int32) (x2_17 : Int32) (x3_18 : Int32) (σ_19 : ST) => (if ix x2_17 7 then (if ix x3_18 7 then (if ix x2_17 7 then (if ix x3_18 7 then (fX11_nextRow_L100 n (x2_17 + ((1 : Int32))) (x1_16 - ((1 : Int32))) (stA (stA σ_19 44 x2_17 (ldA σ_19 44 x3_18)) 44 x3_18 (ldA σ_19 44 x2_17))) else none) else none) else none) else none)) (L - (p + 1)) n (by omega) (by omega) (fun q q1 q2 => by omega)
      have hpl : p < l.length := by omega
      obtain ⟨w1, w2⟩ := RLs_swp hR hpl f2
      generalize hs1 : sA τ 44 (upd (upd (gA τ 44) p (gA τ 44 f)) f (gA τ 44 p)) = τ1 at w1 w2
      have fr1 : fr [] [44] [] τ τ1 := by rw [← hs1]; exact fr_sA fr_rf (by decide)
      obtain ⟨l', τ', r1, r2, r3, r4, r5, r6⟩ := mRev (l.length) (p + 1) L n (swp l p f) τ1 (by omega) (by omega) (by rw [swp_len]; omega) (by omega) w2
      have gt := fun k => swp_get l p f k hpl f2
      have hlen : l'.length = l.length := by rw [r4.length_eq, swp_len]
      refine ⟨l', τ', ?_, r4.trans (swp_perm l p f hpl f2), r3, fr_tr fr1 r2, ?_⟩
      · have gp : l'.getD p 0 = l.getD f 0 := by rw [r5 p (by omega), gt p, if_neg (by omega), if_pos rfl]
        refine nextOf_of (i := p) hpl hpl hlen (fun q hq => ?_) (by rw [gp]; exact f3) (fun j j1 j2 j3 => ?_) (fun x y x1 x2 x3 x4 => Nat.le_of_lt (hd' x y x1 x3 x4)) (fun x y x1 x2 x3 => ?_)
        · rw [r5 q (by omega), gt q, if_neg (by omega), if_neg (by omega)]
        · rw [gp]
          rcases Nat.lt_trichotomy j f with y | y | y
          · exact Nat.le_of_lt (hd' j f j1 y f2)
          · rw [y]; exact Nat.le_refl _
          · have := f4 j y j2; omega
        · rw [r6 x (by omega) (by omega), r6 y (by omega) (by omega), gt, gt]
          have hx : p < p + 1 + L - x := by omega
          have hy : p < p + 1 + L - y := by omega
          by_cases e1 : p + 1 + L - x = f
          · rw [if_pos e1, if_neg (by omega), if_neg (by omega)]
            have := hd' (p + 1 + L - y) f hy (by omega) f2
            omega
          · by_cases e2 : p + 1 + L - y = f
            · rw [if_neg e1, if_neg (by omega), if_pos e2]
              have := f4 (p + 1 + L - x) (by omega) (by omega)
              omega
            · rw [if_neg e1, if_neg (by omega), if_neg e2, if_neg (by omega)]
              exact Nat.le_of_lt (hd' (p + 1 + L - y) (p + 1 + L - x) hy (by omega) (by omega))
      · rw [p4]
        show (if (0 : Int32) ≤ nI p then _ else some ((0 : Int32), τ)) = _
        rw [if_pos (show (0 : Int32) ≤ nI p from nI_le (a := 0) (Nat.zero_le _) (by omega)), show nI l.length - 1 = nI (p + 1 + (L - (p + 1))) from by rw [hL, nI_pred]; congr 1; omega, f5]
        show (if ix (nI p) 7 then (if ix (nI f) 7 then (if ix (nI p) 7 then (if ix (nI f) 7 then (fX11_nextRow_L100 n (nI p + ((1 : Int32))) (nI l.length - ((1 : Int32))) (stA (stA τ 44 (nI p) (ldA τ 44 (nI f))) 44 (nI f) (ldA τ 44 (nI p)))) else none) else none) else none) else none) = _
        rw [if_pos (ix_nI (show p < 7 by omega) (by decide)), if_pos (ix_nI (show f < 7 by omega) (by decide)), if_pos (ix_nI (show p < 7 by omega) (by decide)), if_pos (ix_nI (show f < 7 by omega) (by decide)), w1, nI_1, hL, nI_pred]
        exact r1
