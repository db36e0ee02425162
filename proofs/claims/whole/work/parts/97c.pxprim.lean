/-! ===== PURE: read: the class's small steps ===== -/
def kx (k : Nat) : Nat := if k = 0 then 258 else if k = 1 then 256 else if k = 2 then 257 else if k = 3 then 259 else if k = 4 then 61 else if k = 5 then 44 else if k = 6 then 59 else if k = 7 then 40 else if k = 8 then 41 else if k = 9 then 43 else if k = 10 then 45 else if k = 11 then 42 else if k = 20 then 260 else if k = 21 then 262 else if k = 22 then 261 else if k = 23 then 263 else if k = 24 then 264 else if k = 25 then 265 else if k = 26 then 266 else if k = 27 then 267 else if k = 28 then 268 else 1000 + k
theorem kx_all : ∀ k j : Fin 29, kx k.1 = kx j.1 → k = j := by decide
theorem kx_lt : ∀ k : Fin 29, kx k.1 < 2000 := by decide
theorem kx_inj {k j : Nat} (hk : k < 29) (hj : j < 29) : (nI (kx k) = nI (kx j)) ↔ k = j := by
  have h1 := kx_lt ⟨k, hk⟩
  have h2 := kx_lt ⟨j, hj⟩
  rw [nI_eq (show kx k < 2 ^ 31 from by have : kx k < 2000 := h1; omega) (show kx j < 2 ^ 31 from by have : kx j < 2000 := h2; omega)]
  constructor
  · intro h
    have := kx_all ⟨k, hk⟩ ⟨j, hj⟩ h
    exact congrArg Fin.val this
  · intro h; rw [h]
/-- the tokens: L is the last that is looked at -/
def TKs (tk tv pl : Nat → Nat) (L : Nat) : Prop := L ≤ 400 ∧ (tk L = 0 ∨ tk L = 3 ∨ L = 400) ∧ (∀ i, i ≤ L → tk i < 29 ∧ pl i ≤ 2000 ∧ (tk i = 2 → tv i ≤ 9999)) ∧ (∀ i j, i < j → j ≤ L → pl i < pl j)
def XTk (tk tv pl : Nat → Nat) (xn : Nat → Int64) (L : Nat) (σ : ST) : Prop := ∀ i, i ≤ L → gA σ 4 i = nI (kx (tk i)) ∧ gA σ 5 i = nI (pl i) ∧ (tk i = 2 → gB σ 6 i = lN (tv i)) ∧ (tk i = 1 → gB σ 6 i = xn i)
def XS (Q : Prop) (pl : Nat → Nat) (K : Nat) (al oT oP : Nat → Nat) (L : Nat) (s : PS) (σ : ST) : Prop :=
  gI σ 2 = 0 ∧ gI σ 4 = nI s.1 ∧ s.1 ≤ L ∧ gI σ 5 = nI s.2.2.2.2.1 ∧ (gI σ 6 = if s.2.2.2.2.1 = 0 then -1 else nI (pl s.2.2.2.2.2)) ∧ gI σ 7 = nI K ∧
  (∃ c, c ≤ 400 ∧ gI σ 9 = nI c ∧ (s.2.2.2.2.1 = 0 → Q ∧ c = s.2.1.length ∧ (∀ j, j < c → gA σ 17 j = xopOf (s.2.1.getD j (0, 0)).1 ∧ gA σ 18 j = nI (s.2.1.getD j (0, 0)).2) ∧ gA σ 13 K = nI s.2.2.1 ∧ gA σ 14 K = nI s.2.2.2.1 ∧
    (∃ m, gA σ 15 K = nI m ∧ m < 64 ∧ ∀ x, m.testBit x = true ↔ (s.2.2.1.testBit x = true ∨ ∃ j, s.2.2.2.1.testBit j = true ∧ (al j).testBit x = true)) ∧ ∀ k, k < K → gA σ 13 k = nI (oT k) ∧ gA σ 14 k = nI (oP k) ∧ gA σ 15 k = nI (al k)))
def XFl (pl : Nat → Nat) (K : Nat) (e : Nat × Nat) (σ : ST) : Prop := gI σ 2 = nI e.1 ∧ (e.1 = 1 ∨ e.1 = 2) ∧ gI σ 3 = nI (pl e.2) ∧ (∃ t, t ≤ 400 ∧ gI σ 4 = nI t) ∧ gI σ 7 = nI K ∧ ∃ c, c ≤ 400 ∧ gI σ 9 = nI c
def XRs (Q : Prop) (pl : Nat → Nat) (K : Nat) (al oT oP : Nat → Nat) (L : Nat) (r : Res) (σ : ST) : Prop :=
  match r with
  | .inl e => XFl pl K e σ
  | .inr s => XS Q pl K al oT oP L s σ
theorem XS_dirty {Q : Prop} {pl : Nat → Nat} {K : Nat} {al oT oP : Nat → Nat} {L : Nat} {s s' : PS} {σ σ' : ST} (h : XS Q pl K al oT oP L s σ) (hd : s.2.2.2.2.1 ≠ 0) (e1 : s'.1 = s.1) (e2 : s'.2.2.2.2 = s.2.2.2.2) (i2 : gI σ' 2 = gI σ 2) (i4 : gI σ' 4 = gI σ 4) (i5 : gI σ' 5 = gI σ 5) (i6 : gI σ' 6 = gI σ 6) (i7 : gI σ' 7 = gI σ 7) (i9 : ∃ c, c ≤ 400 ∧ gI σ' 9 = nI c) : XS Q pl K al oT oP L s' σ' := by
  obtain ⟨h1, h2, h3, h4, h5, h6, h7⟩ := h
  obtain ⟨c, c1, c2⟩ := i9
  refine ⟨i2.trans h1, ?_, ?_, ?_, ?_, i7.trans h6, c, c1, c2, fun z => ?_⟩
  · rw [i4, e1]; exact h2
  · rw [e1]; exact h3
  · rw [i5, e2]; exact h4
  · rw [i6, e2]; exact h5
  · rw [e2] at z; exact absurd z hd
theorem xPeekN {Q : Prop} {tk tv pl : Nat → Nat} {xn : Nat → Int64} {K : Nat} {al oT oP : Nat → Nat} {L : Nat} {s : PS} {σ : ST} (hT : TKs tk tv pl L) (hX : XTk tk tv pl xn L σ) (h : XS Q pl K al oT oP L s σ) : fX2_peek σ = some (nI (kx (tk s.1)), σ) := by
  have hL := hT.1
  have h3 := h.2.2.1
  unfold fX2_peek
  rw [h.1, if_pos rfl, h.2.1, if_pos (ix_nI (show s.1 < 401 by omega) (by decide)), ldA_nI _ 4 _ (by omega), (hX _ h3).1]
theorem fl_ne {e : Nat} (h : e = 1 ∨ e = 2) : ¬ nI e = 0 := by rcases h with rfl | rfl <;> decide
theorem xPeekF {pl : Nat → Nat} {K : Nat} {e : Nat × Nat} {σ : ST} (h : XFl pl K e σ) : fX2_peek σ = some (259, σ) := by
  unfold fX2_peek
  rw [h.1, if_neg (fl_ne h.2.1)]
theorem xAccF {pl : Nat → Nat} {K : Nat} {e : Nat × Nat} {σ : ST} (h : XFl pl K e σ) (x : Int32) : fX2_accept x σ = some σ := by
  unfold fX2_accept
  rw [h.1, if_neg (fl_ne h.2.1)]
theorem xAccN {Q : Prop} {tk tv pl : Nat → Nat} {xn : Nat → Int64} {K : Nat} {al oT oP : Nat → Nat} {L : Nat} {s : PS} {σ : ST} {k : Nat} (hT : TKs tk tv pl L) (hX : XTk tk tv pl xn L σ) (h : XS Q pl K al oT oP L s σ) (hk : k < 29) (hk0 : k ≠ 0) (hk3 : k ≠ 3) : ∃ σ', fX2_accept (nI (kx k)) σ = some σ' ∧ fr [2, 3, 4] [] [] σ σ' ∧ XRs Q pl K al oT oP L (aAcc tk k s) σ' := by
  have hL := hT.1
  have h3 := h.2.2.1
  obtain ⟨h1, h2, -, h4, h5, h6, c, c1, c2, c3⟩ := id h
  have i401 : ix (nI s.1) 401 := ix_nI (show s.1 < 401 by omega) (by decide)
  obtain ⟨t1, t2, -, -⟩ := hX _ h3
  have hki := kx_inj (hT.2.2.1 _ h3).1 hk
  unfold fX2_accept aAcc
  rw [h1, if_pos rfl, h2, if_pos i401, ldA_nI _ 4 _ (by omega), t1]
  simp only [lt_def, h2, if_pos i401, ldA_nI _ _ s.1 (show s.1 < 2 ^ 31 by omega), t1]
  have bad : ∀ e : Nat, (e = 1 ∨ e = 2) → ∃ σ', (if ix (gI (sI σ 2 (nI e)) 4) 401 then some (sI (sI σ 2 (nI e)) 3 (ldA (sI σ 2 (nI e)) 5 (gI (sI σ 2 (nI e)) 4))) else none) = some σ' ∧ fr [2, 3, 4] [] [] σ σ' ∧ XFl pl K (e, s.1) σ' := by
    intro e he
    rw [gI_sI, if_neg (show ¬ (4 = 2) by decide), h2, if_pos i401, ldA_nI _ 5 _ (by omega), gA_sI, t2]
    exact ⟨_, rfl, fr_sI (fr_sI fr_rf (by decide)) (by decide), rfl, he, rfl, ⟨s.1, by omega, h2⟩, h6, c, c1, c2⟩
  by_cases e : tk s.1 = k
  · rw [if_pos (hki.mpr e), if_pos e]
    by_cases e4 : s.1 = 400
    · rw [if_pos e4, if_pos (show (400 : Int32) ≤ nI s.1 from by rw [show (400 : Int32) = nI 400 from rfl]; exact nI_le (by omega) (by omega)), if_pos (hki.mpr e)]
      exact bad 2 (Or.inr rfl)
    · have hlt : s.1 < L := by
        rcases Nat.lt_or_ge s.1 L with z | z
        · exact z
        · have : s.1 = L := by omega
          rcases hT.2.1 with q | q | q
          · rw [← this, e] at q; exact absurd q hk0
          · rw [← this, e] at q; exact absurd q hk3
          · omega
      rw [if_neg e4, if_neg (show ¬ (400 : Int32) ≤ nI s.1 from nI_ge (show s.1 < 400 by omega) (by decide)), nI_1]
      exact ⟨_, rfl, fr_sI fr_rf (by decide), h1, rfl, by show s.1 + 1 ≤ L; omega, h4, h5, h6, c, c1, c2, c3⟩
  · rw [if_neg (fun q => e (hki.mp q)), if_neg e, if_neg (fun q => e (hki.mp q))]
    exact bad 1 (Or.inl rfl)
theorem XTk_fr {tk tv pl : Nat → Nat} {xn : Nat → Int64} {L : Nat} {I A B : List Nat} {σ σ' : ST} (f : fr I A B σ σ') (h : XTk tk tv pl xn L σ) (h4 : 4 ∉ A) (h5 : 5 ∉ A) (h6 : 6 ∉ B) : XTk tk tv pl xn L σ' := by
  unfold XTk at *
  rw [f.2.1 4 h4, f.2.1 5 h5, f.2.2 6 h6]; exact h
theorem xFailN {Q : Prop} {tk tv pl : Nat → Nat} {xn : Nat → Int64} {K : Nat} {al oT oP : Nat → Nat} {L : Nat} {s : PS} {σ : ST} {e : Nat} (he : e = 1 ∨ e = 2) (hT : TKs tk tv pl L) (hX : XTk tk tv pl xn L σ) (h : XS Q pl K al oT oP L s σ) : ∃ σ', fX2_fail (nI e) σ = some σ' ∧ fr [2, 3, 4] [] [] σ σ' ∧ XFl pl K (e, s.1) σ' := by
  have hL := hT.1
  have h3 := h.2.2.1
  obtain ⟨h1, h2, -, h4, h5, h6, c, c1, c2, c3⟩ := id h
  unfold fX2_fail
  rw [h1, if_pos rfl, lt_def, gI_sI, if_neg (show ¬ (4 = 2) by decide), h2, if_pos (ix_nI (show s.1 < 401 by omega) (by decide)), ldA_nI _ 5 _ (by omega), gA_sI, (hX _ h3).2.1, lt_def]
  exact ⟨_, rfl, fr_sI (fr_sI fr_rf (by decide)) (by decide), rfl, he, rfl, ⟨s.1, by omega, h2⟩, h6, c, c1, c2⟩
theorem xFailF {pl : Nat → Nat} {K : Nat} {e : Nat × Nat} {σ : ST} (h : XFl pl K e σ) (x : Int32) : fX2_fail x σ = some σ := by
  unfold fX2_fail
  rw [h.1, if_neg (fl_ne h.2.1)]
theorem xNoteN {Q : Prop} {tk tv pl : Nat → Nat} {xn : Nat → Int64} {K : Nat} {al oT oP : Nat → Nat} {L : Nat} {s : PS} {σ : ST} {e : Nat} (he : 0 < e) (he9 : e < 9) (hsf : s.2.2.2.2.1 < 9) (hT : TKs tk tv pl L) (hX : XTk tk tv pl xn L σ) (h : XS Q pl K al oT oP L s σ) : ∃ σ', fX2_noteSense (nI e) σ = some σ' ∧ fr [5, 6] [] [] σ σ' ∧ XS Q pl K al oT oP L (aNote e s) σ' := by
  have hL := hT.1
  have h3 := h.2.2.1
  obtain ⟨h1, h2, -, h4, h5, h6, c, c1, c2, c3⟩ := id h
  unfold fX2_noteSense aNote
  rw [h4]
  by_cases z : s.2.2.2.2.1 = 0
  · rw [if_pos z, z, if_pos (show nI 0 = (0 : Int32) from rfl), lt_def, gI_sI, if_neg (show ¬ (4 = 5) by decide), h2, if_pos (ix_nI (show s.1 < 401 by omega) (by decide)), ldA_nI _ 5 _ (by omega), gA_sI, (hX _ h3).2.1, lt_def]
    refine ⟨_, rfl, fr_sI (fr_sI fr_rf (by decide)) (by decide), h1, h2, h3, rfl, (by show _ = if e = 0 then (-1 : Int32) else nI (pl s.1); rw [if_neg (by omega)]; rfl), h6, c, c1, c2, fun q => ?_⟩
    have q' : e = 0 := q
    omega
  · have hz : ¬ nI s.2.2.2.2.1 = (0 : Int32) := fun q => z ((nI_eq (b := 0) (by omega) (by decide)).mp q)
    rw [if_neg z, if_neg hz]
    exact ⟨σ, rfl, fr_rf, h⟩
/-- code -/
theorem xCodeAny {σ : ST} {c : Nat} (x1 x2 : Int32) (h9 : gI σ 9 = nI c) (hc : c ≤ 400) : ∃ σ', fX4_addCode x1 x2 σ = some σ' ∧ fr [9] [17, 18] [] σ σ' ∧ ∃ c', c' ≤ 400 ∧ gI σ' 9 = nI c' := by
  unfold fX4_addCode
  rw [h9]
  by_cases z : c = 400
  · rw [z, if_pos (by decide)]
    exact ⟨σ, rfl, fr_rf, c, hc, h9⟩
  · have i4 : ix (nI c) 400 := ix_nI (by omega) (by decide)
    rw [if_neg (show ¬ (400 : Int32) ≤ nI c from nI_ge (show c < 400 by omega) (by decide)), if_pos i4, stA_nI σ 17 c _ (by omega), lt_def, gI_sA, h9, if_pos i4, stA_nI _ 18 c _ (by omega), lt_def, lt_def, gI_sA, gI_sA, h9, nI_1]
    exact ⟨_, rfl, fr_sI (fr_sA (fr_sA fr_rf (by decide)) (by decide)) (by decide), c + 1, by omega, rfl⟩
theorem getD_app2 {l : List (Nat × Nat)} {k : Nat × Nat} {i : Nat} : (l ++ [k]).getD i (0, 0) = if i < l.length then l.getD i (0, 0) else if i = l.length then k else (0, 0) := by
  by_cases c : i < l.length
  · rw [if_pos c]; simp [List.getElem?_append, c]
  · rw [if_neg c]
    by_cases e : i = l.length
    · rw [if_pos e, e]; simp
    · rw [if_neg e]
      have : (l ++ [k]).length ≤ i := by simp; omega
      simp [List.getElem?_eq_none this]
theorem xCodeN {Q : Prop} {pl : Nat → Nat} {K : Nat} {al oT oP : Nat → Nat} {L : Nat} {s : PS} {σ : ST} {k v : Nat} (hC : s.2.1.length < 400) (h : XS Q pl K al oT oP L s σ) : ∃ σ', fX4_addCode (xopOf k) (nI v) σ = some σ' ∧ fr [9] [17, 18] [] σ σ' ∧ XS Q pl K al oT oP L (aEm k v s) σ' := by
  obtain ⟨h1, h2, h3, h4, h5, h6, c, c1, c2, c3⟩ := id h
  by_cases z : s.2.2.2.2.1 = 0
  · obtain ⟨d0, d1, d2, d3, d4, d5, d6⟩ := c3 z
    have i4 : ix (nI c) 400 := ix_nI (by omega) (by decide)
    unfold fX4_addCode
    rw [c2, if_neg (show ¬ (400 : Int32) ≤ nI c from nI_ge (show c < 400 by omega) (by decide)), if_pos i4, stA_nI σ 17 c _ (by omega), lt_def, gI_sA, c2, if_pos i4, stA_nI _ 18 c _ (by omega), lt_def, lt_def, gI_sA, gI_sA, c2, nI_1]
    refine ⟨_, rfl, fr_sI (fr_sA (fr_sA fr_rf (by decide)) (by decide)) (by decide), h1, h2, h3, h4, h5, h6, c + 1, by omega, rfl, fun _ => ⟨d0, ?_, fun j hj => ?_, d3, d4, d5, d6⟩⟩
    · show c + 1 = (s.2.1 ++ [(k, v)]).length
      rw [List.length_append, d1]; rfl
    · show upd (gA σ 17) c (xopOf k) j = xopOf ((s.2.1 ++ [(k, v)]).getD j (0, 0)).1 ∧ upd (gA σ 18) c (nI v) j = nI ((s.2.1 ++ [(k, v)]).getD j (0, 0)).2
      rw [getD_app2, upd_at, upd_at]
      by_cases e : j = c
      · rw [if_pos e, if_pos e, if_neg (by omega), if_pos (by omega)]; exact ⟨rfl, rfl⟩
      · rw [if_neg e, if_neg e, if_pos (by omega)]; exact d2 j (by omega)
  · obtain ⟨σ', r1, r2, r3⟩ := xCodeAny (xopOf k) (nI v) c2 c1
    exact ⟨σ', r1, r2, XS_dirty h z rfl rfl (r2.1 2 (by decide)) (r2.1 4 (by decide)) (r2.1 5 (by decide)) (r2.1 6 (by decide)) (r2.1 7 (by decide)) r3⟩
theorem XFl_fr {pl : Nat → Nat} {K : Nat} {e : Nat × Nat} {σ σ' : ST} (h : XFl pl K e σ) (i2 : gI σ' 2 = gI σ 2) (i3 : gI σ' 3 = gI σ 3) (i4 : gI σ' 4 = gI σ 4) (i7 : gI σ' 7 = gI σ 7) (i9 : ∃ c, c ≤ 400 ∧ gI σ' 9 = nI c) : XFl pl K e σ' := by
  obtain ⟨h1, h2, h3, ⟨t, h4, h5⟩, h6, h7⟩ := h
  exact ⟨i2.trans h1, h2, i3.trans h3, ⟨t, h4, i4.trans h5⟩, i7.trans h6, i9⟩
theorem xCodeF {pl : Nat → Nat} {K : Nat} {e : Nat × Nat} {σ : ST} (h : XFl pl K e σ) (x1 x2 : Int32) : ∃ σ', fX4_addCode x1 x2 σ = some σ' ∧ fr [9] [17, 18] [] σ σ' ∧ XFl pl K e σ' := by
  obtain ⟨c, c1, c2⟩ := h.2.2.2.2.2
  obtain ⟨σ', r1, r2, r3⟩ := xCodeAny x1 x2 c2 c1
  exact ⟨σ', r1, r2, XFl_fr h (r2.1 2 (by decide)) (r2.1 3 (by decide)) (r2.1 4 (by decide)) (r2.1 7 (by decide)) r3⟩
