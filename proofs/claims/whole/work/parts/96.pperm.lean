/-! ===== PURE: the next order of a row, by places ===== -/
def swp (l : List Nat) (i j : Nat) : List Nat := (l.set i (l.getD j 0)).set j (l.getD i 0)
theorem swp_len (l : List Nat) (i j : Nat) : (swp l i j).length = l.length := by unfold swp; rw [List.length_set, List.length_set]
theorem getD_set (l : List Nat) (i k v : Nat) (hi : i < l.length) : (l.set i v).getD k 0 = if k = i then v else l.getD k 0 := by
  by_cases c : k = i
  · subst c
    rw [if_pos rfl]
    simp [hi]
  · rw [if_neg c]
    simp only [List.getD_eq_getElem?_getD]
    rw [List.getElem?_set_ne (fun e => c e.symm)]
theorem swp_get (l : List Nat) (i j k : Nat) (hi : i < l.length) (hj : j < l.length) : (swp l i j).getD k 0 = if k = j then l.getD i 0 else if k = i then l.getD j 0 else l.getD k 0 := by
  unfold swp
  rw [getD_set _ _ _ _ (by rw [List.length_set]; exact hj), getD_set _ _ _ _ hi]
theorem swp_perm (l : List Nat) (i j : Nat) (hi : i < l.length) (hj : j < l.length) : (swp l i j).Perm l := by
  have e1 : l.getD i 0 = l[i] := by simp [hi]
  have e2 : l.getD j 0 = l[j] := by simp [hj]
  unfold swp
  rw [e1, e2]
  exact List.set_set_perm hi hj
theorem mem_getD {l : List Nat} {x : Nat} (h : x ∈ l) : ∃ i, i < l.length ∧ l.getD i 0 = x := by
  obtain ⟨i, hi, rfl⟩ := List.mem_iff_getElem.mp h
  exact ⟨i, hi, by simp [hi]⟩
theorem noNext_of : ∀ {d : Nat} {l : List Nat}, (∀ i j, i < d → i < j → j < l.length → l.getD j 0 ≤ l.getD i 0) → noNext d l := by
  intro d
  induction d with
  | zero => intro l _; trivial
  | succ d ih =>
    intro l h
    cases l with
    | nil => trivial
    | cons x xs =>
      refine ⟨ih (fun i j h1 h2 h3 => ?_), fun y hy => ?_⟩
      · exact h (i + 1) (j + 1) (by omega) (by omega) (by rw [List.length_cons]; omega)
      · obtain ⟨i, hi, rfl⟩ := mem_getD hy
        exact h 0 (i + 1) (by omega) (by omega) (by rw [List.length_cons]; omega)
theorem pair_of {l : List Nat} (h : ∀ i j, i < j → j < l.length → l.getD i 0 ≤ l.getD j 0) : l.Pairwise (· ≤ ·) := by
  rw [List.pairwise_iff_getElem]
  intro i j hi hj hij
  have := h i j hij hj
  simpa [hi, hj] using this
theorem nextOf_of : ∀ {i d : Nat} {l l' : List Nat}, i < d → i < l.length → l'.length = l.length → (∀ p, p < i → l'.getD p 0 = l.getD p 0) → l.getD i 0 < l'.getD i 0 → (∀ j, i < j → j < l.length → l.getD i 0 < l.getD j 0 → l'.getD i 0 ≤ l.getD j 0) → (∀ p j, i < p → p < d → p < j → j < l.length → l.getD j 0 ≤ l.getD p 0) → (∀ p j, i < p → p < j → j < l.length → l'.getD p 0 ≤ l'.getD j 0) → nextOf d l l' := by
  intro i
  induction i with
  | zero =>
    intro d l l' hd hl hlen _ hlt hle hno hso
    obtain ⟨d', rfl⟩ : ∃ d', d = d' + 1 := ⟨d - 1, by omega⟩
    cases l with
    | nil => exact absurd hl (Nat.not_lt_zero _)
    | cons x xs =>
      cases l' with
      | nil => simp at hlen
      | cons y ys =>
        have hl2 : ys.length = xs.length := by simpa using hlen
        right
        refine ⟨noNext_of (fun p j h1 h2 h3 => ?_), hlt, fun z hz hxz => ?_, pair_of (fun p j h1 h2 => ?_)⟩
        · exact hno (p + 1) (j + 1) (by omega) (by omega) (by omega) (by rw [List.length_cons]; omega)
        · obtain ⟨j, hj, rfl⟩ := mem_getD hz
          exact hle (j + 1) (by omega) (by rw [List.length_cons]; omega) hxz
        · exact hso (p + 1) (j + 1) (by omega) (by omega) (by rw [List.length_cons]; omega)
  | succ i ih =>
    intro d l l' hd hl hlen hpre hlt hle hno hso
    obtain ⟨d', rfl⟩ : ∃ d', d = d' + 1 := ⟨d - 1, by omega⟩
    cases l with
    | nil => exact absurd hl (Nat.not_lt_zero _)
    | cons x xs =>
      cases l' with
      | nil => simp at hlen
      | cons y ys =>
        have hl2 : ys.length = xs.length := by simpa using hlen
        have hl3 : i < xs.length := by simpa using hl
        left
        refine ⟨(hpre 0 (by omega)).symm, ih (by omega) hl3 hl2 (fun p hp => hpre (p + 1) (by omega)) hlt (fun j h1 h2 => hle (j + 1) (by omega) (by rw [List.length_cons]; omega)) (fun p j h1 h2 h3 h4 => hno (p + 1) (j + 1) (by omega) (by omega) (by omega) (by rw [List.length_cons]; omega)) (fun p j h1 h2 h3 => hso (p + 1) (j + 1) (by omega) (by omega) (by rw [List.length_cons]; omega))⟩
theorem nd_get {l : List Nat} (hn : l.Nodup) {i j : Nat} (hi : i < l.length) (hj : j < l.length) (hij : i ≠ j) : l.getD i 0 ≠ l.getD j 0 := by
  have e1 : l.getD i 0 = l[i] := by simp [hi]
  have e2 : l.getD j 0 = l[j] := by simp [hj]
  rw [e1, e2]
  have hp := List.pairwise_iff_getElem.mp hn
  rcases Nat.lt_or_ge i j with z | z
  · exact hp i j hi hj z
  · exact fun e => hp j i hj hi (by omega) e.symm
