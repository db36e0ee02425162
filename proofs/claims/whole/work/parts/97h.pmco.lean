/-! ===== PURE: read: signs come out; names, brackets, tables, the reference ===== -/
theorem MS_stk {pl : Nat → Nat} {w K : Nat} {c19 c20 : Nat → Int32} {L o : Nat} {s : PS} {S S' : List Nat} {τ τ' : ST} (h : MS pl w K c19 c20 L s S o τ) (f : fr [16] [21] [] τ τ') (hk : stk S' τ') : MS pl w K c19 c20 L s S' o τ' := by
  obtain ⟨⟨h1, h2, h3, h4, h5, h6, h7, h8, h9, h10⟩, ⟨g1, g2⟩, -, st⟩ := h
  refine ⟨⟨?_, ?_, h3, ?_, ?_, ?_, ?_, ?_, ?_, ?_⟩, ⟨?_, ?_⟩, hk, ?_⟩
  · rw [f.1 6 (by decide)]; exact h1
  · rw [f.1 4 (by decide)]; exact h2
  · rw [f.1 8 (by decide)]; exact h4
  · rw [f.1 9 (by decide)]; exact h5
  · rw [f.1 12 (by decide)]; exact h6
  · rw [f.2.1 8 (by decide)]; exact h7
  · rw [f.1 14 (by decide)]; exact h8
  · rw [f.1 15 (by decide)]; exact h9
  · rw [f.1 5 (by decide)]; exact h10
  · rw [f.1 13 (by decide)]; exact g1
  · rw [f.2.1 19 (by decide), f.2.1 20 (by decide)]; exact g2
  · unfold stc; rw [f.2.1 19 (by decide), f.2.1 20 (by decide)]; exact st
theorem MFs_stk {pl : Nat → Nat} {w : Nat} {c19 c20 : Nat → Int32} {e : Nat × Nat} {c : Nat} {S S' : List Nat} {τ τ' : ST} (h : MFs pl w c19 c20 e c S τ) (f : fr [16] [21] [] τ τ') (hk : stk S' τ') : MFs pl w c19 c20 e c S' τ' := by
  obtain ⟨⟨h1, h2, h3, h4, h5, st⟩, g1, -⟩ := h
  refine ⟨⟨?_, h2, ?_, ?_, ?_, ?_⟩, ?_, hk⟩
  · rw [f.1 6 (by decide)]; exact h1
  · rw [f.1 7 (by decide)]; exact h3
  · rw [f.1 4 (by decide)]; exact h4
  · rw [f.1 12 (by decide)]; exact h5
  · unfold stc; rw [f.2.1 19 (by decide), f.2.1 20 (by decide)]; exact st
  · rw [f.1 13 (by decide)]; exact g1
/-- one sign comes out -/
theorem mCo1 {x : Nat} {S : List Nat} {τ : ST} {n : Nat} {x1 : Int32} (hx : isOp x) (hl : S.length < 60) (hk : stk (x :: S) τ) (hp : x = 11 ∨ x1 = 0) : fX11_comesOut_L0 (n + 1) x1 τ = Option.bind (fX11_emit (nI (emO x)) 0 (sI τ 16 (nI S.length))) (fun q => fX11_comesOut_L0 n x1 q) := by
  obtain ⟨t1, t2⟩ := stk_top hk
  have i64 : ix (nI S.length) 64 := ix_nI (by omega) (by decide)
  rw [fX11_comesOut_L0, t1, if_neg (nI_nle (by omega) (by omega)), nI_pred, if_pos i64]
  simp only [lt_def, ldA_nI _ _ S.length (show S.length < 2 ^ 31 by omega), t2, t1, nI_pred, gI_sI, if_true, if_pos i64, gA_sI]
  rcases hx with rfl | rfl | rfl
  · rw [if_neg (show ¬ nI 9 = (11 : Int32) by decide), if_pos (hp.resolve_left (by decide)), if_pos (show nI 9 = (9 : Int32) from rfl)]
    simp only [if_pos (show nI 9 = (9 : Int32) from rfl)]; rfl
  · rw [if_neg (show ¬ nI 10 = (11 : Int32) by decide), if_pos (hp.resolve_left (by decide)), if_neg (show ¬ nI 10 = (9 : Int32) by decide), if_pos (show nI 10 = (10 : Int32) from rfl)]
    simp only [if_neg (show ¬ nI 10 = (9 : Int32) by decide), if_pos (show nI 10 = (10 : Int32) from rfl)]; rfl
  · rw [if_pos (show nI 11 = (11 : Int32) from rfl)]
    simp only [if_neg (show ¬ nI 11 = (9 : Int32) by decide), if_neg (show ¬ nI 11 = (10 : Int32) by decide)]; rfl
/-- what does not come out -/
theorem mCo0 {S : List Nat} {τ : ST} {n : Nat} {x1 : Int32} (hl : S.length < 60) (hk : stk S τ) (hp : bot S ∨ (¬ x1 = 0 ∧ ∃ b r, S = b :: r ∧ b ≠ 11 ∧ b < 200)) : fX11_comesOut_L0 (n + 1) x1 τ = some τ := by
  have key : ∀ b r, S = b :: r → b < 200 → b ≠ 11 → ((b ≠ 9 ∧ b ≠ 10) ∨ ¬ x1 = 0) → fX11_comesOut_L0 (n + 1) x1 τ = some τ := by
    intro b r hS hb h11 hc
    subst hS
    obtain ⟨t1, t2⟩ := stk_top hk
    rw [List.length_cons] at hl
    have i64 : ix (nI r.length) 64 := ix_nI (by omega) (by decide)
    have e11 : ¬ nI b = (11 : Int32) := fun q => by rw [show (11 : Int32) = nI 11 from rfl, nI_eq (by omega) (by decide)] at q; exact h11 q
    rw [fX11_comesOut_L0, t1, if_neg (nI_nle (by omega) (by omega)), nI_pred, if_pos i64]
    simp only [lt_def, ldA_nI _ _ r.length (show r.length < 2 ^ 31 by omega), t2, if_pos i64]
    rw [if_neg e11]
    by_cases z : x1 = 0
    · obtain ⟨a1, a2⟩ := hc.resolve_right (fun y => y z)
      rw [if_pos z, if_neg (fun q => by rw [show (9 : Int32) = nI 9 from rfl, nI_eq (by omega) (by decide)] at q; exact a1 q), if_neg (fun q => by rw [show (10 : Int32) = nI 10 from rfl, nI_eq (by omega) (by decide)] at q; exact a2 q)]
    · rw [if_neg z]
  rcases hp with (h | ⟨b, r, h, hb⟩) | ⟨hx, b, r, h, h11, hb⟩
  · subst h
    rw [fX11_comesOut_L0, hk.1, if_pos (show nI ([] : List Nat).length ≤ 0 by decide)]
  · rcases hb with rfl | rfl | rfl
    · exact key 7 r h (by decide) (by decide) (Or.inl ⟨by decide, by decide⟩)
    · exact key 100 r h (by decide) (by decide) (Or.inl ⟨by decide, by decide⟩)
    · exact key 102 r h (by decide) (by decide) (Or.inl ⟨by decide, by decide⟩)
  · exact key b r h hb h11 (Or.inr hx)
def wC (s : PS) (C : List (Nat × Nat)) : PS := (s.1, C, s.2.2)
theorem mCoN {pl : Nat → Nat} {w K : Nat} {c19 c20 : Nat → Int32} {L o : Nat} {x1 : Int32} (hw : w < 2) {s : PS} {S : List Nat} (hS : ∀ m τ, stk S τ → fX11_comesOut_L0 (m + 1) x1 τ = some τ) : ∀ (P : List Nat) (C : List (Nat × Nat)) (n : Nat) (τ : ST), (∀ k ∈ P, isOp k) → (∀ k ∈ P, k = 11 ∨ x1 = 0) → (P ++ S).length < 60 → C.length + P.length < 450 → P.length < n → MS pl w K c19 c20 L (wC s C) (P ++ S) o τ → ∃ τ', fX11_comesOut_L0 n x1 τ = some τ' ∧ frM τ τ' ∧ MS pl w K c19 c20 L (wC s (C ++ pnd P)) S o τ' := by
  intro P
  induction P with
  | nil =>
    intro C n τ _ _ hl hC hn h
    obtain ⟨m, rfl⟩ : ∃ m, n = m + 1 := ⟨n - 1, by omega⟩
    refine ⟨τ, hS m τ h.2.2.1, fr_rf, ?_⟩
    rw [pnd, List.append_nil]; exact h
  | cons x P ih =>
    intro C n τ hop hx hl hC hn h
    obtain ⟨m, rfl⟩ : ∃ m, n = m + 1 := ⟨n - 1, by omega⟩
    rw [List.cons_append, List.length_cons] at hl
    rw [List.length_cons] at hC hn
    have hk : stk (x :: (P ++ S)) τ := h.2.2.1
    rw [mCo1 (hop x (List.mem_cons_self ..)) (by omega) hk (hx x (List.mem_cons_self ..))]
    have f1 : fr [16] [21] [] τ (sI τ 16 (nI (P ++ S).length)) := fr_sI fr_rf (by decide)
    have h1 := MS_stk h f1 (stk_pop hk)
    obtain ⟨τ2, r1, r2, r3⟩ := mEmit (k := emO x) (v := 0) hw (show (wC s C).2.1.length < 480 from by show C.length < 480; omega) h1
    rw [show (0 : Int32) = nI 0 from rfl, r1, Option.bind_some]
    have r3' : MS pl w K c19 c20 L (wC s (C ++ [(emO x, 0)])) (P ++ S) o τ2 := r3
    obtain ⟨τ', s1, s2, s3⟩ := ih (C ++ [(emO x, 0)]) m τ2 (fun k hk => hop k (List.mem_cons_of_mem _ hk)) (fun k hk => hx k (List.mem_cons_of_mem _ hk)) (by omega) (by rw [List.length_append]; show C.length + 1 + P.length < 450; omega) (by omega) r3'
    refine ⟨τ', s1, fr_tr (frM_up f1 (by decide) (by decide) (by decide)) (fr_tr (frM_up r2 (by decide) (by decide) (by decide)) s2), ?_⟩
    rw [List.append_assoc] at s3
    exact s3
theorem mCoF {pl : Nat → Nat} {w : Nat} {c19 c20 : Nat → Int32} {x1 : Int32} {e : Nat × Nat} (hw : w < 2) {S : List Nat} (hS : ∀ m τ, stk S τ → fX11_comesOut_L0 (m + 1) x1 τ = some τ) : ∀ (P : List Nat) (c n : Nat) (τ : ST), (∀ k ∈ P, isOp k) → (∀ k ∈ P, k = 11 ∨ x1 = 0) → (P ++ S).length < 60 → c + P.length < 450 → P.length < n → MFs pl w c19 c20 e c (P ++ S) τ → ∃ τ', fX11_comesOut_L0 n x1 τ = some τ' ∧ frM τ τ' ∧ MFs pl w c19 c20 e (c + P.length) S τ' := by
  intro P
  induction P with
  | nil =>
    intro c n τ _ _ hl hC hn h
    obtain ⟨m, rfl⟩ : ∃ m, n = m + 1 := ⟨n - 1, by omega⟩
    exact ⟨τ, hS m τ h.2.2, fr_rf, h⟩
  | cons x P ih =>
    intro c n τ hop hx hl hC hn h
    obtain ⟨m, rfl⟩ : ∃ m, n = m + 1 := ⟨n - 1, by omega⟩
    rw [List.cons_append, List.length_cons] at hl
    rw [List.length_cons] at hC hn
    have hk : stk (x :: (P ++ S)) τ := h.2.2
    rw [mCo1 (hop x (List.mem_cons_self ..)) (by omega) hk (hx x (List.mem_cons_self ..))]
    have f1 : fr [16] [21] [] τ (sI τ 16 (nI (P ++ S).length)) := fr_sI fr_rf (by decide)
    have h1 := MFs_stk h f1 (stk_pop hk)
    obtain ⟨τ2, r1, r2, r3⟩ := mEmitF (nI (emO x)) 0 hw (by omega) h1
    rw [r1, Option.bind_some]
    obtain ⟨τ', s1, s2, s3⟩ := ih (c + 1) m τ2 (fun k hk => hop k (List.mem_cons_of_mem _ hk)) (fun k hk => hx k (List.mem_cons_of_mem _ hk)) (by omega) (by omega) (by omega) r3
    refine ⟨τ', s1, fr_tr (frM_up f1 (by decide) (by decide) (by decide)) (fr_tr (frM_up r2 (by decide) (by decide) (by decide)) s2), ?_⟩
    rw [List.length_cons, show c + (P.length + 1) = c + 1 + P.length by omega]
    exact s3
