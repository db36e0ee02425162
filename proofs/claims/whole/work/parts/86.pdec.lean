/-! ===== PURE: what the head of a queue decides ===== -/
theorem find_filter {W P : Nat → Bool} (h : ∀ k, P k = true → W k = true) : ∀ l : List Nat, (l.filter W).find? P = l.find? P := by
  intro l
  induction l with
  | nil => rfl
  | cons x xs ih =>
    by_cases c : W x = true
    · rw [List.filter_cons_of_pos c, List.find?_cons, List.find?_cons, ih]
    · rw [List.filter_cons_of_neg c, ih, List.find?_cons]
      have : P x = false := by
        cases hp : P x
        · rfl
        · exact absurd (h x hp) c
      rw [this]
theorem rdy_wait {a : AS} {t k : Nat} {s : RS} (h : rdyB a t s k = true) : waitB a k = true := by
  unfold rdyB at h
  rw [Bool.and_eq_true] at h
  exact h.1
theorem begS_filter {a : AS} {l : List Nat} {t h : Nat} {s : RS} : begS a (l.filter (waitB a)) t h s = begS a l t h s := by
  unfold begS
  rw [find_filter (fun k => rdy_wait)]
theorem hosS_filter {a : AS} {l : List Nat} {t : Nat} {s : RS} : ∀ h, hosS a (l.filter (waitB a)) t h s = hosS a l t h s := by
  intro h
  induction h with
  | zero => rfl
  | succ h ih => rw [hosS, hosS, ih, begS_filter]
theorem runS_filter {a : AS} {l : List Nat} : ∀ n, runS a (l.filter (waitB a)) n = runS a l n := by
  intro n
  induction n with
  | zero => rfl
  | succ n ih => rw [runS, runS, ih, hosS_filter]
theorem finS_filter {a : AS} {l : List Nat} : finS a (l.filter (waitB a)) = finS a l := runS_filter _
theorem CL_filter {a : AS} {l : List Nat} : CL a (l.filter (waitB a)) = CL a l := by unfold CL; rw [finS_filter]
theorem sameHd_mono : ∀ {d d' : Nat} {p q : List Nat}, d ≤ d' → sameHd d' p q → sameHd d p q := by
  intro d
  induction d with
  | zero => intro d' p q _ _; trivial
  | succ d ih =>
    intro d' p q h hs
    obtain ⟨e, rfl⟩ : ∃ e, d' = e + 1 := ⟨d' - 1, by omega⟩
    cases p with
    | nil =>
      cases q with
      | nil => trivial
      | cons y ys => exact hs
    | cons x xs =>
      cases q with
      | nil => exact hs
      | cons y ys => exact ⟨hs.1, ih (by omega) hs.2⟩
theorem find_hd {P : Nat → Bool} : ∀ {d : Nat} {l l' : List Nat}, sameHd d l' l → (l.take d).any P = true → l'.find? P = l.find? P := by
  intro d
  induction d with
  | zero => intro l l' _ h; rw [List.take_zero] at h; cases h
  | succ d ih =>
    intro l l' hs h
    cases l with
    | nil =>
      cases l' with
      | nil => rfl
      | cons y ys => exact absurd hs id
    | cons x xs =>
      cases l' with
      | nil => exact absurd hs id
      | cons y ys =>
        obtain ⟨rfl, h2⟩ := hs
        rw [List.find?_cons, List.find?_cons]
        cases c : P y
        · rw [List.take_succ_cons, List.any_cons, c, Bool.false_or] at h
          show ys.find? P = xs.find? P
          exact ih h2 h
        · rfl
def decOk (d : Nat) (l : List Nat) (P : Nat → Bool) : Prop := l.find? P = none ∨ (l.take d).any P = true ∨ ∃ k0, l.find? P = some k0 ∧ ∀ k ∈ l, P k = true → k = k0
theorem dec_find {P : Nat → Bool} {d : Nat} {l l' : List Nat} (h : decOk d l P) (hp : l'.Perm l) (hs : sameHd d l' l) : l'.find? P = l.find? P := by
  rcases h with h | h | ⟨k0, h1, h2⟩
  · rw [h]
    refine List.find?_eq_none.mpr (fun k hk => ?_)
    exact List.find?_eq_none.mp h k (hp.subset hk)
  · exact find_hd hs h
  · rw [h1]
    cases f : l'.find? P with
    | none =>
      have := List.find?_eq_none.mp f k0 (hp.symm.subset (List.mem_of_find?_eq_some h1))
      exact absurd (List.find?_some h1) this
    | some k =>
      have := h2 k (hp.subset (List.mem_of_find?_eq_some f)) (List.find?_some f)
      rw [this]
def AG (l : List Nat) (d : Nat) (S : List Nat → RS) : Prop := ∀ l', l'.Perm l → sameHd d l' l → S l' = S l
theorem AG_beg {a : AS} {l : List Nat} {d d' t h : Nat} {S : List Nat → RS} (hA : AG l d S) (hd : d ≤ d') (hk : (S l).2.1 h ≤ t → decOk d' l (rdyB a t (S l))) : AG l d' (fun l => begS a l t h (S l)) := by
  intro l' hp hs
  have e := hA l' hp (sameHd_mono hd hs)
  show begS a l' t h (S l') = begS a l t h (S l)
  rw [e]
  unfold begS
  by_cases c : (S l).2.1 h ≤ t
  · rw [if_pos c, if_pos c, dec_find (hk c) hp hs]
  · rw [if_neg c, if_neg c]
theorem AG_mono {l : List Nat} {d d' : Nat} {S : List Nat → RS} (hA : AG l d S) (hd : d ≤ d') : AG l d' S := fun l' hp hs => hA l' hp (sameHd_mono hd hs)
/-- counting -/
theorem sumTo_full {f g : Nat → Nat} : ∀ n, (∀ k, k < n → f k ≤ g k) → sumTo g n ≤ sumTo f n → ∀ k, k < n → f k = g k := by
  intro n
  induction n with
  | zero => intro _ _ k hk; exact absurd hk (Nat.not_lt_zero k)
  | succ n ih =>
    intro h hs k hk
    rw [sumTo, sumTo] at hs
    have h1 := sumTo_le n (fun k hk => h k (by omega))
    have h2 := h n (Nat.lt_succ_self n)
    rcases Nat.lt_or_ge k n with z | z
    · exact ih (fun k hk => h k (by omega)) (by omega) k z
    · rw [show k = n by omega]; omega
def qByN (a : AS) : List Nat := (List.range (cS a 1)).filter (waitB a)
theorem len_filter {W : Nat → Bool} : ∀ n, ((List.range n).filter W).length = sumTo (fun k => if W k = true then 1 else 0) n := by
  intro n
  induction n with
  | zero => rfl
  | succ n ih =>
    rw [List.range_succ, List.filter_append, List.length_append, ih, sumTo]
    by_cases c : W n = true
    · rw [List.filter_cons_of_pos c, if_pos c]; rfl
    · rw [List.filter_cons_of_neg c, if_neg c]; rfl
theorem popc_K {a : AS} {t : Nat} {s : RS} (hs : hs0 a) (hI : RI a t s) : popc s.2.2 = sumTo (fun k => if s.2.2.testBit k = true then 1 else 0) (cS a 1) := by
  unfold popc
  obtain ⟨d, hd⟩ : ∃ d, 7 = cS a 1 + d := ⟨7 - cS a 1, by have := hs.1; omega⟩
  rw [hd]
  refine sumTo_ext d (fun k hk => ?_)
  rw [if_neg]
  intro z
  have := (hI.2.2.2.1 k z).1
  omega
theorem all_begun {a : AS} {t : Nat} {s : RS} (hs : hs0 a) (hI : RI a t s) (h : (qByN a).length ≤ popc s.2.2) : ∀ u k, k < cS a 1 → rdyB a u s k = false := by
  intro u k hk
  unfold qByN at h
  rw [len_filter, popc_K hs hI] at h
  have := sumTo_full (f := fun k => if s.2.2.testBit k = true then 1 else 0) (g := fun k => if waitB a k = true then 1 else 0) (cS a 1) (fun j hj => by
    show (if s.2.2.testBit j = true then 1 else 0) ≤ (if waitB a j = true then 1 else 0)
    by_cases c : s.2.2.testBit j = true
    · rw [if_pos c, if_pos (hI.2.2.2.1 j c).2]; exact Nat.le_refl _
    · rw [if_neg c]; exact Nat.zero_le _) h k hk
  cases c : rdyB a u s k
  · rfl
  · obtain ⟨r1, r2, -⟩ := (rdyB_iff (pt128 hs hk)).mp c
    simp only [r1, r2] at this
    simp at this
theorem bg_lt {a : AS} {t : Nat} {s : RS} (hs : hs0 a) (hI : RI a t s) : s.2.2 < 128 := by
  rcases Nat.lt_or_ge s.2.2 128 with z | z
  · exact z
  · obtain ⟨i, hi, hb⟩ := Nat.exists_ge_and_testBit_of_ge_two_pow (n := 7) (x := s.2.2) z
    have := (hI.2.2.2.1 i hb).1
    have := hs.1
    omega
theorem late_le {a : AS} {t : Nat} {s : RS} (hs : hs0 a) (hw : ∀ k, k < cS a 1 → cN a 2 k ≤ 100) (hI : RI a t s) : lateS a s ≤ 280000 := by
  have h1 : lateS a s ≤ sumTo (fun _ => 40000) (cS a 1) := sumTo_le _ (fun k hk => by
    unfold costA
    have h1 := (hI.1 k hk).2
    have h2 := hw k hk
    have : (s.1 k - cN a 1 k) * cN a 2 k ≤ 400 * 100 := Nat.mul_le_mul (by omega) h2
    omega)
  have h2 : ∀ n, sumTo (fun _ => 40000) n = 40000 * n := by
    intro n
    induction n with
    | zero => rfl
    | succ n ih => rw [sumTo, ih]; omega
  rw [h2] at h1
  have := hs.1
  omega
def lftS (a : AS) (s : RS) (l : List Nat) (i : Nat) : Nat := sumTo (fun k => costA a k (if (waitB a k && !s.2.2.testBit k && !(l.take i).contains k) = true then soE a k else s.1 k)) (cS a 1)
theorem lft_0 {a : AS} {s : RS} {l : List Nat} : lftS a s l 0 = cstS a s := by
  unfold lftS cstS
  refine sumTo_cg _ (fun k hk => ?_)
  rw [List.take_zero]
  simp
theorem lft_end {a : AS} {s : RS} {l : List Nat} (hc : covers a l) : lftS a s l l.length = lateS a s := by
  unfold lftS lateS
  refine sumTo_cg _ (fun k hk => ?_)
  rw [List.take_length]
  have : (waitB a k && !s.2.2.testBit k && !l.contains k) = false := by
    cases c : waitB a k
    · rfl
    · have := hc k hk c
      have : l.contains k = true := by simpa using this
      rw [this]; simp
  rw [this]; rfl
theorem lft_step {a : AS} {s : RS} {l : List Nat} {i : Nat} (hi : i < l.length) (hl : inK a l) (hw : ∀ k ∈ l, waitB a k = true) (hn : l.Nodup) : lftS a s l (i + 1) = (if s.2.2.testBit (l.getD i 0) = true then lftS a s l i else lftS a s l i + costA a (l.getD i 0) (s.1 (l.getD i 0)) - costA a (l.getD i 0) (soE a (l.getD i 0))) ∧ (s.2.2.testBit (l.getD i 0) = false → costA a (l.getD i 0) (soE a (l.getD i 0)) ≤ lftS a s l i) := by
  have hg : l.getD i 0 = l[i] := by simp [hi]
  rw [hg]
  have hm : l[i] ∈ l := List.getElem_mem hi
  have ht : l.take (i + 1) = l.take i ++ [l[i]] := by rw [List.take_succ_eq_append_getElem hi]
  have hnot : (l.take i).contains l[i] = false := by
    have hnd := hn
    rw [← List.take_append_drop (i + 1) l, ht] at hnd
    have := (List.nodup_append.mp (List.nodup_append.mp hnd).1)
    cases c : (l.take i).contains l[i]
    · rfl
    · have hmem : l[i] ∈ l.take i := by simpa using c
      exact absurd rfl (this.2.2 _ hmem _ (List.mem_singleton.mpr rfl))
  have hc1 : ∀ k, k ≠ l[i] → (l.take (i + 1)).contains k = (l.take i).contains k := by
    intro k hk
    rw [ht]
    simp only [List.contains_eq_mem, List.mem_append, List.mem_singleton, hk, or_false]
  have hc2 : (l.take (i + 1)).contains l[i] = true := by rw [ht]; simp only [List.contains_eq_mem, List.mem_append, List.mem_singleton, or_true, decide_true]
  have one := sumTo_one (f := fun k => costA a k (if (waitB a k && !s.2.2.testBit k && !(l.take (i + 1)).contains k) = true then soE a k else s.1 k)) (g := fun k => costA a k (if (waitB a k && !s.2.2.testBit k && !(l.take i).contains k) = true then soE a k else s.1 k)) (c := l[i]) (cS a 1) (hl _ hm) (fun k hk => by
    show costA a k (if (waitB a k && !s.2.2.testBit k && !(l.take (i + 1)).contains k) = true then soE a k else s.1 k) = costA a k (if (waitB a k && !s.2.2.testBit k && !(l.take i).contains k) = true then soE a k else s.1 k)
    rw [hc1 k hk])
  have e1 : (if (waitB a l[i] && !s.2.2.testBit l[i] && !(l.take (i + 1)).contains l[i]) = true then soE a l[i] else s.1 l[i]) = s.1 l[i] := by rw [hc2]; simp
  cases hb : s.2.2.testBit l[i]
  · have e2 : (if (waitB a l[i] && !s.2.2.testBit l[i] && !(l.take i).contains l[i]) = true then soE a l[i] else s.1 l[i]) = soE a l[i] := by rw [hw _ hm, hb, hnot]; rfl
    simp only [e1, e2] at one
    have hle : costA a l[i] (soE a l[i]) ≤ lftS a s l i := by
      unfold lftS
      have : ∀ (g : Nat → Nat) n c, c < n → g c ≤ sumTo g n := by
        intro g n
        induction n with
        | zero => intro c hc; omega
        | succ n ih =>
          intro c hc
          rw [sumTo]
          by_cases e : c = n
          · subst e; omega
          · have := ih c (by omega); omega
      have := this (fun k => costA a k (if (waitB a k && !s.2.2.testBit k && !(l.take i).contains k) = true then soE a k else s.1 k)) (cS a 1) l[i] (hl _ hm)
      simp only [e2] at this
      exact this
    refine ⟨?_, fun _ => hle⟩
    rw [if_neg (by decide)]
    unfold lftS at hle ⊢
    omega
  · have e2 : (if (waitB a l[i] && !s.2.2.testBit l[i] && !(l.take i).contains l[i]) = true then soE a l[i] else s.1 l[i]) = s.1 l[i] := by rw [hb]; simp
    simp only [e1, e2] at one
    refine ⟨?_, fun z => by cases z⟩
    rw [if_pos rfl]
    unfold lftS
    omega
