/-! ===== PURE: read: the reference's small steps ===== -/
def MTk (tk tv pl : Nat → Nat) (mn : Nat → Int64) (L : Nat) (τ : ST) : Prop := ∀ i, i ≤ L → gA τ 3 i = nI (tk i) ∧ gA τ 4 i = nI (pl i) ∧ (tk i = 2 → gA τ 5 i = nI (tv i)) ∧ (tk i = 1 → gB τ 6 i = mn i)
def stc (w : Nat) (c19 c20 : Nat → Int32) (τ : ST) : Prop := ∀ i, (i < 500 * w ∨ 500 * w + 500 ≤ i) → gA τ 19 i = c19 i ∧ gA τ 20 i = c20 i
def MS (pl : Nat → Nat) (w K : Nat) (c19 c20 : Nat → Int32) (L : Nat) (s : PS) (S : List Nat) (o : Nat) (τ : ST) : Prop :=
  (gI τ 6 = 0 ∧ gI τ 4 = nI s.1 ∧ s.1 ≤ L ∧ gI τ 8 = nI s.2.2.2.2.1 ∧ (s.2.2.2.2.1 ≠ 0 → gI τ 9 = nI (pl s.2.2.2.2.2)) ∧ gI τ 12 = nI w ∧ gA τ 8 w = nI K ∧ gI τ 14 = nI s.2.2.1 ∧ gI τ 15 = nI s.2.2.2.1 ∧ gI τ 5 = nI o) ∧
  (gI τ 13 = nI (500 * w + s.2.1.length) ∧ ∀ j, j < s.2.1.length → gA τ 19 (500 * w + j) = nI (s.2.1.getD j (0, 0)).1 ∧ gA τ 20 (500 * w + j) = nI (s.2.1.getD j (0, 0)).2) ∧
  (gI τ 16 = nI S.length ∧ ∀ j, j < S.length → gA τ 21 j = nI (S.getD (S.length - 1 - j) 0)) ∧ stc w c19 c20 τ
def MF0 (pl : Nat → Nat) (w : Nat) (c19 c20 : Nat → Int32) (e : Nat × Nat) (τ : ST) : Prop := gI τ 6 = nI e.1 ∧ (e.1 = 1 ∨ e.1 = 2) ∧ gI τ 7 = nI (pl e.2) ∧ (∃ t, t ≤ 400 ∧ gI τ 4 = nI t) ∧ gI τ 12 = nI w ∧ stc w c19 c20 τ
/-- a fault, and the stack still in order -/
def MFs (pl : Nat → Nat) (w : Nat) (c19 c20 : Nat → Int32) (e : Nat × Nat) (c : Nat) (S : List Nat) (τ : ST) : Prop := MF0 pl w c19 c20 e τ ∧ gI τ 13 = nI (500 * w + c) ∧ gI τ 16 = nI S.length ∧ ∀ j, j < S.length → gA τ 21 j = nI (S.getD (S.length - 1 - j) 0)
def frM (τ τ' : ST) : Prop := fr [4, 5, 6, 7, 8, 9, 13, 14, 15, 16] [19, 20, 21] [] τ τ'
theorem frM_up {I A B : List Nat} {τ τ' : ST} (f : fr I A B τ τ') (hI : ∀ k ∈ I, k ∈ [4, 5, 6, 7, 8, 9, 13, 14, 15, 16]) (hA : ∀ k ∈ A, k ∈ [19, 20, 21]) (hB : ∀ k ∈ B, k ∈ ([] : List Nat)) : frM τ τ' := fr_up f hI hA hB
theorem MTk_fr {tk tv pl : Nat → Nat} {mn : Nat → Int64} {L : Nat} {I A B : List Nat} {τ τ' : ST} (f : fr I A B τ τ') (h : MTk tk tv pl mn L τ) (h3 : 3 ∉ A) (h4 : 4 ∉ A) (h5 : 5 ∉ A) (h6 : 6 ∉ B) : MTk tk tv pl mn L τ' := by
  unfold MTk at *
  rw [f.2.1 3 h3, f.2.1 4 h4, f.2.1 5 h5, f.2.2 6 h6]; exact h
theorem mIsN {tk tv pl : Nat → Nat} {mn : Nat → Int64} {w K : Nat} {c19 c20 : Nat → Int32} {L o : Nat} {s : PS} {S : List Nat} {τ : ST} (hT : TKs tk tv pl L) (hX : MTk tk tv pl mn L τ) (h : MS pl w K c19 c20 L s S o τ) (k : Nat) (hk : k < 29) : fX11_is (nI k) τ = some (if tk s.1 = k then 1 else 0, τ) := by
  have hL := hT.1
  have h3 := h.1.2.2.1
  unfold fX11_is
  rw [h.1.1, if_pos rfl, h.1.2.1, if_pos (ix_nI (show s.1 < 403 by omega) (by decide)), ldA_nI _ 3 _ (by omega), (hX _ h3).1]
  have hki : (nI (tk s.1) = nI k) ↔ tk s.1 = k := nI_eq (by have := (hT.2.2.1 _ h3).1; omega) (by omega)
  by_cases c : tk s.1 = k
  · rw [if_pos (hki.mpr c), if_pos c]
  · rw [if_neg (fun q => c (hki.mp q)), if_neg c]
theorem mIsF {pl : Nat → Nat} {w : Nat} {c19 c20 : Nat → Int32} {e : Nat × Nat} {τ : ST} (h : MF0 pl w c19 c20 e τ) (x : Int32) : fX11_is x τ = some (0, τ) := by
  unfold fX11_is
  rw [h.1, if_neg (fl_ne h.2.1)]
theorem fl_pos {e : Nat} (h : e = 1 ∨ e = 2) : ¬ nI e ≤ 0 := by rcases h with rfl | rfl <;> decide
theorem mFailF {pl : Nat → Nat} {w : Nat} {c19 c20 : Nat → Int32} {e : Nat × Nat} {τ : ST} (h : MF0 pl w c19 c20 e τ) (x : Int32) : fX11_fail x τ = some τ := by
  unfold fX11_fail
  rw [h.1, if_neg (fl_pos h.2.1)]
theorem mFailN {tk tv pl : Nat → Nat} {mn : Nat → Int64} {w K : Nat} {c19 c20 : Nat → Int32} {L o : Nat} {s : PS} {S : List Nat} {τ : ST} {e : Nat} (he : e = 1 ∨ e = 2) (hT : TKs tk tv pl L) (hX : MTk tk tv pl mn L τ) (h : MS pl w K c19 c20 L s S o τ) : ∃ τ', fX11_fail (nI e) τ = some τ' ∧ fr [6, 7] [] [] τ τ' ∧ MFs pl w c19 c20 (e, s.1) s.2.1.length S τ' := by
  have hL := hT.1
  have h3 := h.1.2.2.1
  obtain ⟨⟨h1, h2, -, h4, h5, h6, h7, h8, h9, h10⟩, ⟨g1, g2⟩, ⟨k1, k2⟩, st⟩ := id h
  unfold fX11_fail
  rw [h1, if_pos (show (0 : Int32) ≤ 0 by decide), lt_def, gI_sI, if_neg (show ¬ (4 = 6) by decide), h2, if_pos (ix_nI (show s.1 < 403 by omega) (by decide)), ldA_nI _ 4 _ (by omega), gA_sI, (hX _ h3).2.1, lt_def]
  exact ⟨_, rfl, fr_sI (fr_sI fr_rf (by decide)) (by decide), ⟨rfl, he, rfl, ⟨s.1, by omega, h2⟩, h6, st⟩, g1, k1, k2⟩
/-- next, where a token is accepted -/
def mvT (s : PS) : PS := (s.1 + 1, s.2)
theorem mNextN {tk tv pl : Nat → Nat} {mn : Nat → Int64} {w K : Nat} {c19 c20 : Nat → Int32} {L o : Nat} {s : PS} {S : List Nat} {τ : ST} (hT : TKs tk tv pl L) (hX : MTk tk tv pl mn L τ) (h : MS pl w K c19 c20 L s S o τ) (h0 : tk s.1 ≠ 0) (h3' : tk s.1 ≠ 3) : (s.1 ≠ 400 → fX11_next τ = some (sI τ 4 (nI (s.1 + 1))) ∧ MS pl w K c19 c20 L (mvT s) S o (sI τ 4 (nI (s.1 + 1)))) ∧ (s.1 = 400 → ∃ τ', fX11_next τ = some τ' ∧ fr [6, 7] [] [] τ τ' ∧ MFs pl w c19 c20 (2, s.1) s.2.1.length S τ') := by
  have hL := hT.1
  have h3 := h.1.2.2.1
  constructor
  · intro c
    have hlt : s.1 < L := by
      rcases Nat.lt_or_ge s.1 L with z | z
      · exact z
      · have : s.1 = L := by omega
        rcases hT.2.1 with q | q | q
        · rw [← this] at q; exact absurd q h0
        · rw [← this] at q; exact absurd q h3'
        · omega
    have hne : ¬ nI s.1 = (400 : Int32) := fun q => by rw [show (400 : Int32) = nI 400 from rfl, nI_eq (by omega) (by decide)] at q; exact c q
    refine ⟨?_, ?_⟩
    · unfold fX11_next
      rw [h.1.2.1, if_neg hne, lt_def, nI_1]
    · obtain ⟨⟨h1, h2, -, h4, h5, h6, h7, h8, h9, h10⟩, g, k, st⟩ := h
      exact ⟨⟨h1, rfl, by show s.1 + 1 ≤ L; omega, h4, h5, h6, h7, h8, h9, h10⟩, g, k, st⟩
  · intro c
    obtain ⟨τ', r1, r2, r3⟩ := mFailN (e := 2) (Or.inr rfl) hT hX h
    refine ⟨τ', ?_, r2, r3⟩
    unfold fX11_next
    rw [h.1.2.1, c, if_pos (by decide), show (2 : Int32) = nI 2 from rfl, r1, Option.bind_some]
theorem mEmit {pl : Nat → Nat} {w K : Nat} {c19 c20 : Nat → Int32} {L o : Nat} {s : PS} {S : List Nat} {τ : ST} {k v : Nat} (hw : w < 2) (hC : s.2.1.length < 480) (h : MS pl w K c19 c20 L s S o τ) : ∃ τ', fX11_emit (nI k) (nI v) τ = some τ' ∧ fr [13] [19, 20] [] τ τ' ∧ MS pl w K c19 c20 L (aEm k v s) S o τ' := by
  obtain ⟨h0, ⟨g1, g2⟩, k0, st⟩ := h
  have i1 : ix (nI (500 * w + s.2.1.length)) 1000 := ix_nI (by omega) (by decide)
  unfold fX11_emit
  rw [g1, if_pos i1, stA_nI τ 19 _ _ (by omega), lt_def, gI_sA, g1, if_pos i1, stA_nI _ 20 _ _ (by omega), lt_def, lt_def, gI_sA, gI_sA, g1, nI_1]
  refine ⟨_, rfl, fr_sI (fr_sA (fr_sA fr_rf (by decide)) (by decide)) (by decide), h0, ⟨?_, fun j hj => ?_⟩, k0, fun i hi => ?_⟩
  · show nI (500 * w + s.2.1.length + 1) = nI (500 * w + (s.2.1 ++ [(k, v)]).length)
    rw [List.length_append]; rfl
  · have hj' : j < (s.2.1 ++ [(k, v)]).length := hj
    rw [List.length_append, List.length_singleton] at hj'
    show upd (gA τ 19) (500 * w + s.2.1.length) (nI k) (500 * w + j) = nI ((s.2.1 ++ [(k, v)]).getD j (0, 0)).1 ∧ upd (gA τ 20) (500 * w + s.2.1.length) (nI v) (500 * w + j) = nI ((s.2.1 ++ [(k, v)]).getD j (0, 0)).2
    rw [getD_app2, upd_at, upd_at]
    by_cases e : j = s.2.1.length
    · rw [if_pos (show 500 * w + j = 500 * w + s.2.1.length by omega), if_pos (show 500 * w + j = 500 * w + s.2.1.length by omega), if_neg (show ¬ j < s.2.1.length by omega), if_pos e]; exact ⟨rfl, rfl⟩
    · rw [if_neg (show ¬ 500 * w + j = 500 * w + s.2.1.length by omega), if_neg (show ¬ 500 * w + j = 500 * w + s.2.1.length by omega), if_pos (show j < s.2.1.length by omega)]; exact g2 j (by omega)
  · show upd (gA τ 19) (500 * w + s.2.1.length) (nI k) i = c19 i ∧ upd (gA τ 20) (500 * w + s.2.1.length) (nI v) i = c20 i
    rw [upd_at, upd_at, if_neg (by omega), if_neg (by omega)]; exact st i hi
theorem mEmitF {pl : Nat → Nat} {w : Nat} {c19 c20 : Nat → Int32} {e : Nat × Nat} {c : Nat} {S : List Nat} {τ : ST} (x y : Int32) (hw : w < 2) (hC : c < 480) (h : MFs pl w c19 c20 e c S τ) : ∃ τ', fX11_emit x y τ = some τ' ∧ fr [13] [19, 20] [] τ τ' ∧ MFs pl w c19 c20 e (c + 1) S τ' := by
  obtain ⟨⟨h1, h2, h3, h4, h5, st⟩, g1, k1, k2⟩ := h
  have i1 : ix (nI (500 * w + c)) 1000 := ix_nI (by omega) (by decide)
  unfold fX11_emit
  rw [g1, if_pos i1, stA_nI τ 19 _ _ (by omega), lt_def, gI_sA, g1, if_pos i1, stA_nI _ 20 _ _ (by omega), lt_def, lt_def, gI_sA, gI_sA, g1, nI_1]
  refine ⟨_, rfl, fr_sI (fr_sA (fr_sA fr_rf (by decide)) (by decide)) (by decide), ⟨h1, h2, h3, h4, h5, fun i hi => ?_⟩, rfl, k1, k2⟩
  show upd (gA τ 19) (500 * w + c) x i = c19 i ∧ upd (gA τ 20) (500 * w + c) y i = c20 i
  rw [upd_at, upd_at, if_neg (by omega), if_neg (by omega)]; exact st i hi
/-- the stack -/
def isOp (k : Nat) : Prop := k = 9 ∨ k = 10 ∨ k = 11
def bot (S : List Nat) : Prop := S = [] ∨ ∃ b r, S = b :: r ∧ (b = 7 ∨ b = 100 ∨ b = 102)
def emO (k : Nat) : Nat := if k = 9 then 5 else if k = 10 then 6 else 7
def pnd : List Nat → List (Nat × Nat)
  | [] => []
  | k :: P => (emO k, 0) :: pnd P
theorem pnd_app (P P' : List Nat) : pnd (P ++ P') = pnd P ++ pnd P' := by
  induction P with
  | nil => rfl
  | cons k P ih => show (emO k, 0) :: pnd (P ++ P') = (emO k, 0) :: (pnd P ++ pnd P'); rw [ih]
theorem pnd_len (P : List Nat) : (pnd P).length = P.length := by
  induction P with
  | nil => rfl
  | cons k P ih => rw [pnd, List.length_cons, List.length_cons, ih]
def stk (S : List Nat) (τ : ST) : Prop := gI τ 16 = nI S.length ∧ ∀ j, j < S.length → gA τ 21 j = nI (S.getD (S.length - 1 - j) 0)
theorem stk_top {x : Nat} {S : List Nat} {τ : ST} (h : stk (x :: S) τ) : gI τ 16 = nI (S.length + 1) ∧ gA τ 21 S.length = nI x := by
  obtain ⟨h1, h2⟩ := h
  have := h2 S.length (by rw [List.length_cons]; omega)
  rw [List.length_cons] at h1 this
  rw [show S.length + 1 - 1 - S.length = 0 by omega] at this
  exact ⟨h1, this⟩
theorem stk_pop {x : Nat} {S : List Nat} {τ : ST} (h : stk (x :: S) τ) : stk S (sI τ 16 (nI S.length)) := by
  refine ⟨rfl, fun j hj => ?_⟩
  have := h.2 j (by rw [List.length_cons]; omega)
  rw [List.length_cons, show S.length + 1 - 1 - j = (S.length - 1 - j) + 1 by omega] at this
  exact this
theorem stk_push {x : Nat} {S : List Nat} {τ : ST} (h : stk S τ) (hl : S.length < 64) : stk (x :: S) (sI (sA τ 21 (upd (gA τ 21) S.length (nI x))) 16 (nI (S.length + 1))) := by
  refine ⟨by rw [List.length_cons]; rfl, fun j hj => ?_⟩
  rw [List.length_cons] at hj ⊢
  show upd (gA τ 21) S.length (nI x) j = _
  rw [upd_at]
  by_cases e : j = S.length
  · rw [if_pos e, e, show S.length + 1 - 1 - S.length = 0 by omega]; rfl
  · rw [if_neg e, h.2 j (by omega), show S.length + 1 - 1 - j = (S.length - 1 - j) + 1 by omega]; rfl
theorem mCo_eq (n : Nat) (x : Int32) (τ : ST) : fX11_comesOut n x τ = fX11_comesOut_L0 (n + 1) x τ := rfl
def hdS (S : List Nat) : Int32 := match S with | [] => -1 | b :: _ => nI b
theorem mInnL {S : List Nat} (hS : bot S) {τ : ST} : ∀ (P : List Nat) (n : Nat), (∀ k ∈ P, isOp k) → (P ++ S).length < 64 → P.length + 1 < n → (∀ j, j < (P ++ S).length → gA τ 21 j = nI ((P ++ S).getD ((P ++ S).length - 1 - j) 0)) → fX11_inner_L7 n (nI (P ++ S).length - 1) τ = some (hdS S, τ) := by
  intro P
  induction P with
  | nil =>
    intro n _ hl hn hg
    obtain ⟨m, rfl⟩ : ∃ m, n = m + 1 := ⟨n - 1, by omega⟩
    rcases hS with rfl | ⟨b, r, rfl, hb⟩
    · show fX11_inner_L7 (m + 1) (nI 0 - 1) τ = some (-1, τ)
      rw [fX11_inner_L7, if_pos (show nI 0 - 1 < 0 by decide)]
    · have h0 := hg r.length (by show r.length < (b :: r).length; rw [List.length_cons]; omega)
      rw [List.nil_append] at h0 hl ⊢
      rw [List.length_cons] at h0 hl ⊢
      rw [show r.length + 1 - 1 - r.length = 0 by omega] at h0
      have h0' : gA τ 21 r.length = nI b := h0
      rw [nI_pred, fX11_inner_L7, if_neg (nI_pos (by omega)), if_pos (ix_nI (show r.length < 64 by omega) (by decide)), ldA_nI _ 21 _ (by omega), h0']
      show _ = some (nI b, τ)
      rcases hb with rfl | rfl | rfl
      · rw [if_pos (show nI 7 = (7 : Int32) from rfl)]; simp only [if_pos (ix_nI (show r.length < 64 by omega) (show 64 < 2 ^ 31 by decide))]
      · rw [if_neg (show ¬ nI 100 = (7 : Int32) by decide)]; simp only [if_pos (ix_nI (show r.length < 64 by omega) (show 64 < 2 ^ 31 by decide))]
        rw [if_neg (show ¬ nI 100 < (100 : Int32) by decide)]
      · rw [if_neg (show ¬ nI 102 = (7 : Int32) by decide)]; simp only [if_pos (ix_nI (show r.length < 64 by omega) (show 64 < 2 ^ 31 by decide))]
        rw [if_neg (show ¬ nI 102 < (100 : Int32) by decide)]
  | cons x P ih =>
    intro n hP hl hn hg
    obtain ⟨m, rfl⟩ : ∃ m, n = m + 1 := ⟨n - 1, by omega⟩
    have el : (x :: P ++ S).length = (P ++ S).length + 1 := by rw [List.cons_append, List.length_cons]
    rw [el] at hl hg ⊢
    have h0 := hg (P ++ S).length (by omega)
    rw [show (P ++ S).length + 1 - 1 - (P ++ S).length = 0 by omega] at h0
    have h0' : gA τ 21 (P ++ S).length = nI x := h0
    have hh := ih m (fun k hk => hP k (List.mem_cons_of_mem _ hk)) (by omega) (by rw [List.length_cons] at hn; omega) (fun j hj => by
      have := hg j (by omega)
      rw [show (P ++ S).length + 1 - 1 - j = ((P ++ S).length - 1 - j) + 1 by omega] at this
      exact this)
    rw [nI_pred, fX11_inner_L7, if_neg (nI_pos (by omega)), if_pos (ix_nI (show (P ++ S).length < 64 by omega) (by decide)), ldA_nI _ 21 _ (by omega), h0', lt_def, ← Int32.sub_eq_add_neg]
    rcases hP x (List.mem_cons_self ..) with rfl | rfl | rfl
    · rw [if_neg (show ¬ nI 9 = (7 : Int32) by decide), if_pos (ix_nI (show (P ++ S).length < 64 by omega) (by decide)), if_pos (show nI 9 < (100 : Int32) by decide)]; exact hh
    · rw [if_neg (show ¬ nI 10 = (7 : Int32) by decide), if_pos (ix_nI (show (P ++ S).length < 64 by omega) (by decide)), if_pos (show nI 10 < (100 : Int32) by decide)]; exact hh
    · rw [if_neg (show ¬ nI 11 = (7 : Int32) by decide), if_pos (ix_nI (show (P ++ S).length < 64 by omega) (by decide)), if_pos (show nI 11 < (100 : Int32) by decide)]; exact hh
theorem mInner {S P : List Nat} {n : Nat} {τ : ST} (hS : bot S) (hP : ∀ k ∈ P, isOp k) (hl : (P ++ S).length < 64) (hn : 64 < n) (hk : stk (P ++ S) τ) : fX11_inner n τ = some (hdS S, τ) := by
  unfold fX11_inner
  rw [lt_def, hk.1]
  exact mInnL hS P n hP hl (by rw [List.length_append] at hl; omega) hk.2
