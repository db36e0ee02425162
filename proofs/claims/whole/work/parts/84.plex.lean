/-! ===== PURE: lists in lexicographic order ===== -/
def lexLt : List Nat → List Nat → Prop
  | [], [] => False
  | [], _ :: _ => True
  | _ :: _, [] => False
  | x :: xs, y :: ys => x < y ∨ (x = y ∧ lexLt xs ys)
def lexLe (p q : List Nat) : Prop := p = q ∨ lexLt p q
theorem lexLt_irr : ∀ p, ¬ lexLt p p := by
  intro p
  induction p with
  | nil => intro h; exact h
  | cons x xs ih =>
    rintro (h | ⟨-, h⟩)
    · omega
    · exact ih h
theorem lexLt_tr : ∀ {p q r}, lexLt p q → lexLt q r → lexLt p r := by
  intro p
  induction p with
  | nil =>
    intro q r h1 h2
    cases q with
    | nil => exact absurd h1 id
    | cons y ys =>
      cases r with
      | nil => exact absurd h2 id
      | cons z zs => trivial
  | cons x xs ih =>
    intro q r h1 h2
    cases q with
    | nil => exact absurd h1 id
    | cons y ys =>
      cases r with
      | nil => exact absurd h2 id
      | cons z zs =>
        rcases h1 with a | ⟨a, a'⟩
        · rcases h2 with b | ⟨b, b'⟩
          · left; omega
          · left; omega
        · rcases h2 with b | ⟨b, b'⟩
          · left; omega
          · right; exact ⟨by omega, ih a' b'⟩
theorem lexLt_tot : ∀ p q : List Nat, p = q ∨ lexLt p q ∨ lexLt q p := by
  intro p
  induction p with
  | nil =>
    intro q
    cases q with
    | nil => exact Or.inl rfl
    | cons y ys => exact Or.inr (Or.inl trivial)
  | cons x xs ih =>
    intro q
    cases q with
    | nil => exact Or.inr (Or.inr trivial)
    | cons y ys =>
      rcases Nat.lt_trichotomy x y with h | h | h
      · exact Or.inr (Or.inl (Or.inl h))
      · subst h
        rcases ih ys with z | z | z
        · exact Or.inl (by rw [z])
        · exact Or.inr (Or.inl (Or.inr ⟨rfl, z⟩))
        · exact Or.inr (Or.inr (Or.inr ⟨rfl, z⟩))
      · exact Or.inr (Or.inr (Or.inl h))
theorem lexLe_lt {p q r : List Nat} (h1 : lexLe p q) (h2 : lexLt q r) : lexLt p r := by
  rcases h1 with rfl | h
  · exact h2
  · exact lexLt_tr h h2
theorem lexLe_tr {p q r : List Nat} (h1 : lexLe p q) (h2 : lexLe q r) : lexLe p r := by
  rcases h2 with rfl | h
  · exact h1
  · exact Or.inr (lexLe_lt h1 h)
/-- rank among the orders of the same things -/
def facN : Nat → Nat
  | 0 => 1
  | n + 1 => (n + 1) * facN n
theorem facN_pos : ∀ n, 0 < facN n := by
  intro n
  induction n with
  | zero => decide
  | succ n ih => exact Nat.mul_pos (Nat.succ_pos n) ih
def rkL : List Nat → Nat
  | [] => 0
  | x :: xs => xs.countP (fun y => decide (y < x)) * facN xs.length + rkL xs
theorem rkL_lt : ∀ p, rkL p < facN p.length := by
  intro p
  induction p with
  | nil => decide
  | cons x xs ih =>
    rw [rkL, List.length_cons, facN]
    have h := List.countP_le_length (p := fun y => decide (y < x)) (l := xs)
    have h2 : xs.countP (fun y => decide (y < x)) * facN xs.length ≤ xs.length * facN xs.length := Nat.mul_le_mul_right _ h
    rw [Nat.add_mul, Nat.one_mul]
    omega
theorem rkL_mono : ∀ {p q : List Nat}, p.Perm q → lexLt p q → rkL p < rkL q := by
  intro p
  induction p with
  | nil =>
    intro q hp h
    cases q with
    | nil => exact absurd h id
    | cons y ys => exact absurd hp.length_eq (by simp)
  | cons x xs ih =>
    intro q hp h
    cases q with
    | nil => exact absurd h id
    | cons y ys =>
      rcases h with h | ⟨rfl, h⟩
      · have e1 : xs.countP (fun z => decide (z < x)) = (x :: xs).countP (fun z => decide (z < x)) := by
          rw [List.countP_cons_of_neg]; simp
        have e2 : ys.countP (fun z => decide (z < y)) = (x :: xs).countP (fun z => decide (z < y)) := by
          rw [hp.countP_eq, List.countP_cons_of_neg]; simp
        have e3 : (x :: xs).countP (fun z => decide (z < y)) = xs.countP (fun z => decide (z < y)) + 1 := by
          rw [List.countP_cons_of_pos]; simpa using h
        have e4 : xs.countP (fun z => decide (z < x)) ≤ xs.countP (fun z => decide (z < y)) := by
          apply List.countP_mono_left
          intro z _ hz
          simp at hz ⊢
          omega
        have hl : xs.length = ys.length := by have := hp.length_eq; simp at this; exact this
        rw [rkL, rkL, e2, e3, ← hl, Nat.add_mul, Nat.one_mul]
        have := rkL_lt xs
        have h5 := Nat.mul_le_mul_right (facN xs.length) e4
        omega
      · have hp' : xs.Perm ys := (List.perm_cons x).mp hp
        rw [rkL, rkL, hp'.countP_eq, hp'.length_eq]
        have := ih hp' h
        omega
/-- p has the first d of q -/
def sameHd : Nat → List Nat → List Nat → Prop
  | 0, _, _ => True
  | _ + 1, [], [] => True
  | _ + 1, [], _ :: _ => False
  | _ + 1, _ :: _, [] => False
  | d + 1, x :: xs, y :: ys => x = y ∧ sameHd d xs ys
theorem sameHd_all : ∀ {d : Nat} {p q : List Nat}, p.length = q.length → p.length ≤ d → sameHd d p q → p = q := by
  intro d
  induction d with
  | zero =>
    intro p q hl hd _
    have : p = [] := List.length_eq_zero_iff.mp (by omega)
    have : q = [] := List.length_eq_zero_iff.mp (by omega)
    simp_all
  | succ d ih =>
    intro p q hl hd h
    cases p with
    | nil =>
      cases q with
      | nil => rfl
      | cons y ys => simp at hl
    | cons x xs =>
      cases q with
      | nil => simp at hl
      | cons y ys =>
        obtain ⟨h1, h2⟩ := h
        simp at hl hd
        rw [h1, ih hl hd h2]
def noNext : Nat → List Nat → Prop
  | 0, _ => True
  | _ + 1, [] => True
  | d + 1, x :: xs => noNext d xs ∧ ∀ y ∈ xs, y ≤ x
def nextOf : Nat → List Nat → List Nat → Prop
  | 0, _, _ => False
  | _ + 1, [], _ => False
  | _ + 1, _ :: _, [] => False
  | d + 1, x :: xs, y :: ys => (x = y ∧ nextOf d xs ys) ∨ (noNext d xs ∧ x < y ∧ (∀ z ∈ xs, x < z → y ≤ z) ∧ ys.Pairwise (· ≤ ·))
theorem noNext_sp : ∀ {d : Nat} {q p : List Nat}, noNext d q → p.Perm q → lexLt q p → sameHd d p q := by
  intro d
  induction d with
  | zero => intro q p _ _ _; trivial
  | succ d ih =>
    intro q p hn hp hl
    cases q with
    | nil =>
      have : p = [] := hp.eq_nil
      subst this; trivial
    | cons x xs =>
      cases p with
      | nil => exact absurd hl id
      | cons y ys =>
        rcases hl with h | ⟨rfl, h⟩
        · have : y ∈ x :: xs := hp.subset (List.mem_cons_self ..)
          rcases List.mem_cons.mp this with z | z
          · omega
          · have := hn.2 y z; omega
        · exact ⟨rfl, ih hn.1 ((List.perm_cons x).mp hp) h⟩
theorem sorted_le : ∀ {s p : List Nat}, s.Pairwise (· ≤ ·) → p.Perm s → lexLe s p := by
  intro s
  induction s with
  | nil => intro p _ hp; left; exact hp.eq_nil.symm
  | cons x xs ih =>
    intro p hs hp
    cases p with
    | nil => exact absurd hp.length_eq (by simp)
    | cons y ys =>
      have hy : y ∈ x :: xs := hp.subset (List.mem_cons_self ..)
      have hxy : x ≤ y := by
        rcases List.mem_cons.mp hy with z | z
        · omega
        · exact (List.pairwise_cons.mp hs).1 y z
      rcases Nat.lt_or_ge x y with h | h
      · exact Or.inr (Or.inl h)
      · have : x = y := by omega
        subst this
        rcases ih (List.pairwise_cons.mp hs).2 ((List.perm_cons x).mp hp) with z | z
        · left; rw [z]
        · right; exact Or.inr ⟨rfl, z⟩
theorem nextOf_sp : ∀ {d : Nat} {q q' p : List Nat}, nextOf d q q' → q'.Perm q → p.Perm q → lexLt q p → sameHd d p q ∨ lexLe q' p := by
  intro d
  induction d with
  | zero => intro q q' p h; exact absurd h id
  | succ d ih =>
    intro q q' p hn hq hp hl
    cases q with
    | nil => exact absurd hn id
    | cons x xs =>
      cases q' with
      | nil => exact absurd hn id
      | cons y ys =>
        cases p with
        | nil => exact absurd hl id
        | cons z zs =>
          rcases hn with ⟨rfl, hn⟩ | ⟨hno, hxy, hle, hso⟩
          · rcases hl with h | ⟨rfl, h⟩
            · exact Or.inr (Or.inr (Or.inl h))
            · rcases ih hn ((List.perm_cons x).mp hq) ((List.perm_cons x).mp hp) h with a | a
              · exact Or.inl ⟨rfl, a⟩
              · right
                rcases a with a | a
                · left; rw [a]
                · right; exact Or.inr ⟨rfl, a⟩
          · rcases hl with h | ⟨rfl, h⟩
            · right
              have hz : z ∈ x :: xs := hp.subset (List.mem_cons_self ..)
              have hz' : z ∈ xs := by
                rcases List.mem_cons.mp hz with a | a
                · omega
                · exact a
              have hyz := hle z hz' h
              rcases Nat.lt_or_ge y z with a | a
              · exact Or.inr (Or.inl a)
              · have : y = z := by omega
                subst this
                have hpp : zs.Perm ys := (List.perm_cons y).mp (hp.trans hq.symm)
                rcases sorted_le hso hpp with b | b
                · left; rw [b]
                · right; exact Or.inr ⟨rfl, b⟩
            · left
              exact ⟨rfl, noNext_sp hno ((List.perm_cons x).mp hp) h⟩
theorem nextOf_lt : ∀ {d : Nat} {q q' : List Nat}, nextOf d q q' → lexLt q q' := by
  intro d
  induction d with
  | zero => intro q q' h; exact absurd h id
  | succ d ih =>
    intro q q' h
    cases q with
    | nil => exact absurd h id
    | cons x xs =>
      cases q' with
      | nil => exact absurd h id
      | cons y ys =>
        rcases h with ⟨rfl, h⟩ | ⟨-, h, -⟩
        · exact Or.inr ⟨rfl, ih h⟩
        · exact Or.inl h
/-- idle steps go in by numbers -/
def mrg : List Nat → List Nat → List Nat
  | [], b => b
  | x :: xs, [] => x :: xs
  | x :: xs, y :: ys => if x < y then x :: mrg xs (y :: ys) else y :: mrg (x :: xs) ys
termination_by i b => i.length + b.length
theorem mrg_le {W : Nat → Bool} : ∀ {p i b : List Nat}, i.Pairwise (· ≤ ·) → (p.filter (fun k => !W k)).Perm i → lexLe b (p.filter W) → b.Perm (p.filter W) → (∀ k ∈ i, W k = false) → lexLe (mrg i b) p := by
  intro p
  induction p with
  | nil =>
    intro i b hi hp hb hbp hW
    have h1 : i = [] := by simpa using hp.symm
    have h2 : b = [] := by simpa using hbp
    subst h1; subst h2
    left; rw [mrg]
  | cons z p ih =>
    intro i b hi hp hb hbp hW
    by_cases hz : W z = true
    · rw [List.filter_cons_of_pos hz] at hb hbp
      rw [List.filter_cons_of_neg (by simp [hz])] at hp
      cases b with
      | nil => exact absurd hbp.length_eq (by simp)
      | cons y ys =>
        have hyz : y ≤ z := by
          rcases hb with h | h | ⟨h, -⟩
          · rw [List.cons.inj h |>.1]; exact Nat.le_refl _
          · omega
          · omega
        have hrec : ∀ i', i' = i → y = z → lexLe (mrg i' ys) p := by
          rintro i' rfl rfl
          have hb' : lexLe ys (p.filter W) := by
            rcases hb with h | h | ⟨-, h⟩
            · left; exact (List.cons.inj h).2
            · omega
            · right; exact h
          exact ih hi hp hb' ((List.perm_cons y).mp hbp) hW
        cases i with
        | nil =>
          rw [mrg]
          rcases Nat.lt_or_ge y z with h | h
          · exact Or.inr (Or.inl h)
          · have e : y = z := by omega
            have := hrec [] rfl e
            rw [mrg] at this
            subst e
            rcases this with a | a
            · left; rw [a]
            · right; exact Or.inr ⟨rfl, a⟩
        | cons x xs =>
          rw [mrg]
          by_cases c : x < y
          · rw [if_pos c]; exact Or.inr (Or.inl (by omega))
          · rw [if_neg c]
            rcases Nat.lt_or_ge y z with h | h
            · exact Or.inr (Or.inl h)
            · have e : y = z := by omega
              have := hrec (x :: xs) rfl e
              subst e
              rcases this with a | a
              · left; rw [a]
              · right; exact Or.inr ⟨rfl, a⟩
    · have hz' : W z = false := by simpa using hz
      rw [List.filter_cons_of_neg hz] at hb hbp
      rw [List.filter_cons_of_pos (by simp [hz'])] at hp
      cases i with
      | nil => exact absurd hp.length_eq (by simp)
      | cons x xs =>
        have hzi : z ∈ x :: xs := hp.subset (List.mem_cons_self ..)
        have hxz : x ≤ z := by
          rcases List.mem_cons.mp hzi with a | a
          · omega
          · exact (List.pairwise_cons.mp hi).1 z a
        have hrec : x = z → lexLe (mrg xs b) p := by
          rintro rfl
          exact ih (List.pairwise_cons.mp hi).2 ((List.perm_cons x).mp hp) hb hbp (fun k hk => hW k (List.mem_cons_of_mem _ hk))
        have fin : lexLe (x :: mrg xs b) (z :: p) := by
          rcases Nat.lt_or_ge x z with h | h
          · exact Or.inr (Or.inl h)
          · have e : x = z := by omega
            have := hrec e
            subst e
            rcases this with a | a
            · left; rw [a]
            · right; exact Or.inr ⟨rfl, a⟩
        cases b with
        | nil =>
          rw [mrg]
          have : mrg xs [] = xs := by cases xs <;> rw [mrg]
          rw [this] at fin; exact fin
        | cons y ys =>
          rw [mrg]
          by_cases c : x < y
          · rw [if_pos c]; exact fin
          · rw [if_neg c]
            have hy : y ∈ p.filter W := hbp.subset (List.mem_cons_self ..)
            have hyW : W y = true := (List.mem_filter.mp hy).2
            have hxW := hW x (List.mem_cons_self ..)
            have : x ≠ y := fun e => by rw [e, hyW] at hxW; cases hxW
            exact Or.inr (Or.inl (by omega))
theorem mrg_perm : ∀ (i b : List Nat), (mrg i b).Perm (i ++ b) := by
  intro i b
  induction i, b using mrg.induct with
  | case1 b => rw [mrg]; exact List.Perm.refl _
  | case2 x xs => rw [mrg, List.append_nil]
  | case3 x xs y ys h ih => rw [mrg, if_pos h]; exact List.Perm.cons x ih
  | case4 x xs y ys h ih =>
    rw [mrg, if_neg h]
    exact (List.Perm.cons y ih).trans (List.perm_middle (l₁ := x :: xs)).symm
theorem mrg_filter {W : Nat → Bool} : ∀ (i b : List Nat), (∀ k ∈ i, W k = false) → (∀ k ∈ b, W k = true) → (mrg i b).filter W = b := by
  intro i b
  induction i, b using mrg.induct with
  | case1 b => intro _ h; rw [mrg]; exact List.filter_eq_self.mpr h
  | case2 x xs =>
    intro h _; rw [mrg]
    exact List.filter_eq_nil_iff.mpr (fun k hk => by rw [h k hk]; decide)
  | case3 x xs y ys c ih =>
    intro h1 h2
    rw [mrg, if_pos c, List.filter_cons_of_neg (by rw [h1 x (List.mem_cons_self ..)]; decide)]
    exact ih (fun k hk => h1 k (List.mem_cons_of_mem _ hk)) h2
  | case4 x xs y ys c ih =>
    intro h1 h2
    rw [mrg, if_neg c, List.filter_cons_of_pos (h2 y (List.mem_cons_self ..))]
    rw [ih h1 (fun k hk => h2 k (List.mem_cons_of_mem _ hk))]
