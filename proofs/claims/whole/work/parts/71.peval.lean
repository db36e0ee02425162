/-! ===== PURE: an E is worked: the stack as a list, top first ===== -/
def opL (k : Nat) (x y : Int64) : Int64 := if k = 5 then x + y else if k = 6 then x - y else if k = 7 then x * y else if y < x then x else y
def leafL (fig : Nat → Nat → Int64) (val : Nat → Int64) (k v : Nat) : Int64 := if k = 0 then (nI v).toInt64 else if k = 4 then val v else fig k v
def stepL (fig : Nat → Nat → Int64) (val : Nat → Int64) (k v : Nat) (s : List Int64) : List Int64 :=
  if k < 5 then leafL fig val k v :: s else match s with
    | y :: x :: r => opL k x y :: r
    | s => s
def evL (fig : Nat → Nat → Int64) (val : Nat → Int64) (ck co : Nat → Nat) (b : Nat) : Nat → List Int64
  | 0 => []
  | n + 1 => stepL fig val (ck (b + n)) (co (b + n)) (evL fig val ck co b n)
theorem evL_len {fig : Nat → Nat → Int64} {val : Nat → Int64} {ck co : Nat → Nat} {b L : Nat} (h : ∀ i, i < L → 5 ≤ ck (b + i) → 2 ≤ htA ck b i) : ∀ n, n ≤ L → (evL fig val ck co b n).length = htA ck b n := by
  intro n
  induction n with
  | zero => intro _; rfl
  | succ n ih =>
    intro hn
    have e := ih (by omega)
    rw [evL, htA]
    unfold stepL
    by_cases c : ck (b + n) < 5
    · rw [if_pos c, if_pos c, List.length_cons, e]
    · rw [if_neg c, if_neg c]
      have h2 := h n (by omega) (by omega)
      generalize hs : evL fig val ck co b n = s at e
      match s, e with
      | [], e => rw [List.length_nil] at e; omega
      | [_], e => rw [List.length_singleton] at e; omega
      | y :: x :: r, e =>
        rw [List.length_cons, List.length_cons] at e
        show (opL _ x y :: r).length = _
        rw [List.length_cons]; omega
/-- the class's stack holds the list -/
def xStk (σ : ST) (s : List Int64) : Prop := gI σ 14 = nI s.length ∧ ∀ j, j < s.length → gB σ 46 j = s.getD (s.length - 1 - j) 0
theorem xPush {σ : ST} {s : List Int64} (v : Int64) (h : xStk σ s) (hl : s.length < 400) : ∃ σ', fX8_push v σ = some σ' ∧ fr [14] [] [46] σ σ' ∧ xStk σ' (v :: s) := by
  unfold fX8_push
  rw [h.1, show (400 : Int32) = nI 400 from rfl, if_neg (nI_ge hl (by decide)), if_pos (ix_nI hl (by decide)), stB_nI _ _ _ _ (by omega)]
  simp only [lt_def, gI_sB, h.1, nI_1]
  refine ⟨_, rfl, fr_sI (fr_sB fr_rf (by decide)) (by decide), ?_, fun j hj => ?_⟩
  · show nI (s.length + 1) = nI (v :: s).length
    rw [List.length_cons]
  · rw [List.length_cons] at hj ⊢
    show vp_updL (gB σ 46) s.length v j = _
    rw [updL_at]
    by_cases e : j = s.length
    · rw [if_pos e, e, show s.length + 1 - 1 - s.length = 0 by omega]; rfl
    · rw [if_neg e, h.2 j (by omega), show s.length + 1 - 1 - j = (s.length - 1 - j) + 1 by omega]; rfl
theorem xPop {σ : ST} {s : List Int64} (v : Int64) (h : xStk σ (v :: s)) (hl : s.length < 400) : ∃ σ', fX8_pop σ = some (v, σ') ∧ fr [14] [] [46] σ σ' ∧ xStk σ' s := by
  unfold fX8_pop
  have h1 : gI σ 14 = nI (s.length + 1) := by rw [h.1, List.length_cons]
  rw [h1, if_pos (show (0 : Int32) < nI (s.length + 1) from nI_lt (a := 0) (by omega) (by omega))]
  simp only [lt_def, nI_pred, gI_sI, if_true]
  rw [if_pos (ix_nI hl (by decide)), ldB_nI _ _ _ (by omega), gB_sI]
  have h2 := h.2 s.length (by rw [List.length_cons]; omega)
  rw [List.length_cons, show s.length + 1 - 1 - s.length = 0 by omega] at h2
  refine ⟨_, by rw [h2]; rfl, fr_sI fr_rf (by decide), rfl, fun j hj => ?_⟩
  have h3 := h.2 j (by rw [List.length_cons]; omega)
  rw [List.length_cons, show s.length + 1 - 1 - j = (s.length - 1 - j) + 1 by omega] at h3
  exact h3
