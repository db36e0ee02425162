/-! ===== PURE: feed, row ===== -/
theorem sI_sI (σ : ST) (k : Nat) (v w : Int32) : sI (sI σ k v) k w = sI σ k w := by
  unfold sI
  refine Prod.ext (funext fun j => ?_) rfl
  show (if j = k then w else if j = k then v else σ.1 j) = if j = k then w else σ.1 j
  by_cases h : j = k
  · rw [if_pos h, if_pos h]
  · rw [if_neg h, if_neg h, if_neg h]
theorem sA_sA (σ : ST) (k : Nat) (f g : Nat → Int32) : sA (sA σ k f) k g = sA σ k g := by
  unfold sA
  refine Prod.ext rfl (Prod.ext rfl (Prod.ext (funext fun j => ?_) rfl))
  show (if j = k then g else if j = k then f else σ.2.2.1 j) = if j = k then g else σ.2.2.1 j
  by_cases h : j = k
  · rw [if_pos h, if_pos h]
  · rw [if_neg h, if_neg h, if_neg h]
theorem sB_sB (σ : ST) (k : Nat) (f g : Nat → Int64) : sB (sB σ k f) k g = sB σ k g := by
  unfold sB
  refine Prod.ext rfl (Prod.ext rfl (Prod.ext rfl (funext fun j => ?_)))
  show (if j = k then g else if j = k then f else σ.2.2.2 j) = if j = k then g else σ.2.2.2 j
  by_cases h : j = k
  · rw [if_pos h, if_pos h]
  · rw [if_neg h, if_neg h, if_neg h]
theorem sA_sI (σ : ST) (k j : Nat) (v : Int32) (f : Nat → Int32) : sA (sI σ k v) j f = sI (sA σ j f) k v := rfl
def wByte (x : Int32) (s : Int32) : Int32 := nb ((x >>> (s &&& 31)).toInt8.toInt32)
theorem xWord1 {σ : ST} {l : Nat} {x s : Int32} (n : Nat) (h0 : gI σ 0 = nI l) (hl : l < 2000) (hs : ¬ s < 0) : fX6_addWord_L3 (n + 1) x s σ = fX6_addWord_L3 n x (s + (-8)) (sI (sA σ 2 (upd (gA σ 2) l (wByte x s))) 0 (nI (l + 1))) := by
  rw [fX6_addWord_L3, if_neg hs, h0, show (2000 : Int32) = nI 2000 from rfl, if_neg (nI_ge hl (by decide)), if_pos (ix_nI hl (by decide))]
  simp only [lt_def]
  rw [stA_nI _ _ _ _ (by omega), gI_sA, h0, nI_1]
  rfl
theorem mWord1 {τ : ST} {l : Nat} {x s : Int32} (n : Nat) (h0 : gI τ 1 = nI l) (hl : l < 2000) (hs : ¬ s < 0) : fX11_put_L3 (n + 1) x s τ = fX11_put_L3 n x (s + (-8)) (sI (sA τ 1 (upd (gA τ 1) l (wByte x s))) 1 (nI (l + 1))) := by
  rw [fX11_put_L3, if_neg hs, h0, if_pos (ix_nI hl (by decide))]
  simp only [lt_def]
  rw [stA_nI _ _ _ _ (by omega), gI_sA, h0, nI_1]
  rfl
theorem word_rel {σ τ : ST} {l : Nat} (x : Int32) (h0 : gI σ 0 = nI l) (h1 : gI τ 1 = nI l) (hl : l + 4 ≤ 2000) (he : ∀ i, i < l → gA σ 2 i = gA τ 1 i) :
    ∃ f g : Nat → Int32, fX6_addWord FU x σ = some (sI (sA σ 2 f) 0 (nI (l + 4))) ∧ fX11_put FU x τ = some (sI (sA τ 1 g) 1 (nI (l + 4))) ∧ ∀ i, i < l + 4 → f i = g i := by
  refine ⟨upd (upd (upd (upd (gA σ 2) l (wByte x 24)) (l + 1) (wByte x (24 + -8))) (l + 2) (wByte x (24 + -8 + -8))) (l + 3) (wByte x (24 + -8 + -8 + -8)), upd (upd (upd (upd (gA τ 1) l (wByte x 24)) (l + 1) (wByte x (24 + -8))) (l + 2) (wByte x (24 + -8 + -8))) (l + 3) (wByte x (24 + -8 + -8 + -8)), ?_, ?_, ?_⟩
  · unfold fX6_addWord
    rw [lt_def, show FU = 999995 + 1 + 1 + 1 + 1 + 1 from rfl, xWord1 _ h0 (by omega) (by decide), xWord1 (l := l + 1) _ rfl (by omega) (by decide), xWord1 (l := l + 2) _ rfl (by omega) (by decide), xWord1 (l := l + 3) _ rfl (by omega) (by decide), fX6_addWord_L3, if_pos (by decide)]
    simp only [gA_sI, gA_sA, if_true, sA_sI, sI_sI, sA_sA]
  · unfold fX11_put
    rw [lt_def, show FU = 999995 + 1 + 1 + 1 + 1 + 1 from rfl, mWord1 _ h1 (by omega) (by decide), mWord1 (l := l + 1) _ rfl (by omega) (by decide), mWord1 (l := l + 2) _ rfl (by omega) (by decide), mWord1 (l := l + 3) _ rfl (by omega) (by decide), fX11_put_L3, if_pos (by decide)]
    simp only [gA_sI, gA_sA, if_true, sA_sI, sI_sI, sA_sA]
  · intro i hi
    simp only [upd_at]
    by_cases e3 : i = l + 3
    · rw [if_pos e3, if_pos e3]
    · rw [if_neg e3, if_neg e3]
      by_cases e2 : i = l + 2
      · rw [if_pos e2, if_pos e2]
      · rw [if_neg e2, if_neg e2]
        by_cases e1 : i = l + 1
        · rw [if_pos e1, if_pos e1]
        · rw [if_neg e1, if_neg e1]
          by_cases e0 : i = l
          · rw [if_pos e0, if_pos e0]
          · rw [if_neg e0, if_neg e0]; exact he i (by omega)
theorem sim_feed (p q r s u : Int32) : SimStep Rel0 (fX10_feed FU p q r s u) (fX11_feed FU p q r s u) := by
  intro t σ τ ht hR
  obtain ⟨a, hA, hB, hC, hD, hX, hM, hk⟩ := id hR
  have e1 : gI σ 0 = nI (cS a 0) := hX.1.1
  have e2 : gI τ 1 = nI (cS a 0) := hM.1.1
  have hl : cS a 0 ≤ 2000 := hA.1
  have hee : ∀ i, i < cS a 0 → gA σ 2 i = gA τ 1 i := fun i hi => by rw [hX.1.2 i hi, hM.1.2 i hi]
  unfold fX10_feed fX11_feed
  rw [e1, e2, show (1980 : Int32) = nI 1980 from rfl, show (20 : Int32) = nI 20 from rfl, show (2000 : Int32) = nI 2000 from rfl, nI_add]
  by_cases h : cS a 0 ≤ 1980
  · rw [if_pos (nI_le h (by decide)), if_pos (nI_le (by omega) (by decide))]
    obtain ⟨f1, g1, x1, m1, q1⟩ := word_rel p e1 e2 (by omega) hee
    obtain ⟨f2, g2, x2, m2, q2⟩ := word_rel (σ := sI (sA σ 2 f1) 0 (nI (cS a 0 + 4))) (τ := sI (sA τ 1 g1) 1 (nI (cS a 0 + 4))) q rfl rfl (by omega) q1
    obtain ⟨f3, g3, x3, m3, q3⟩ := word_rel (σ := sI (sA (sI (sA σ 2 f1) 0 (nI (cS a 0 + 4))) 2 f2) 0 (nI (cS a 0 + 4 + 4))) (τ := sI (sA (sI (sA τ 1 g1) 1 (nI (cS a 0 + 4))) 1 g2) 1 (nI (cS a 0 + 4 + 4))) r rfl rfl (by omega) q2
    simp only [sA_sI, sI_sI, sA_sA] at x2 m2 x3 m3
    obtain ⟨f4, g4, x4, m4, q4⟩ := word_rel (σ := sI (sA σ 2 f3) 0 (nI (cS a 0 + 4 + 4 + 4))) (τ := sI (sA τ 1 g3) 1 (nI (cS a 0 + 4 + 4 + 4))) s rfl rfl (by omega) q3
    obtain ⟨f5, g5, x5, m5, q5⟩ := word_rel (σ := sI (sA (sI (sA σ 2 f3) 0 (nI (cS a 0 + 4 + 4 + 4))) 2 f4) 0 (nI (cS a 0 + 4 + 4 + 4 + 4))) (τ := sI (sA (sI (sA τ 1 g3) 1 (nI (cS a 0 + 4 + 4 + 4))) 1 g4) 1 (nI (cS a 0 + 4 + 4 + 4 + 4))) u rfl rfl (by omega) q4
    simp only [sA_sI, sI_sI, sA_sA] at x4 m4 x5 m5
    simp only [x1, m1, x2, m2, x3, m3, x4, m4, x5, m5, Option.bind_some]
    refine ⟨nI (cS a 0 + 4 + 4 + 4 + 4 + 4), _, _, rfl, rfl, tI (tS a 0 (cS a 0 + 4 + 4 + 4 + 4 + 4)) 0 f5, ?_, hB, wfC_mono hC, hD, ?_, ?_, hk⟩
    · exact ⟨show cS a 0 + 4 + 4 + 4 + 4 + 4 ≤ 2000 by omega, (wfA_mono hA).2⟩
    · exact ⟨⟨rfl, fun i hi => rfl⟩, hX.2⟩
    · exact ⟨⟨rfl, fun i hi => (q5 i hi).symm⟩, hM.2⟩
  · rw [if_neg (nI_ge (by omega) (by omega)), if_neg (nI_ge (by omega) (by omega))]
    exact ⟨-1, σ, τ, rfl, rfl, rel_same hR⟩
