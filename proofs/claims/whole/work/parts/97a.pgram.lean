/-! ===== PURE: read: an E in tokens (kinds as the reference numbers them) ===== -/
/-- where: 1 token, 2.1 code, 2.2.1 own tables, 2.2.2.1 own parts, 2.2.2.2.1 the fault of sense or 0, 2.2.2.2.2 its token -/
abbrev PS : Type := Nat × List (Nat × Nat) × Nat × Nat × Nat × Nat
abbrev Res : Type := Sum (Nat × Nat) PS
def bO (r : Option Res) (f : PS → Option Res) : Option Res :=
  match r with
  | none => none
  | some (.inl e) => some (.inl e)
  | some (.inr s) => f s
def aAcc (tk : Nat → Nat) (k : Nat) (s : PS) : Res := if tk s.1 = k then (if s.1 = 400 then .inl (2, s.1) else .inr (s.1 + 1, s.2)) else .inl (1, s.1)
def aNote (e : Nat) (s : PS) : PS := if s.2.2.2.2.1 = 0 then (s.1, s.2.1, s.2.2.1, s.2.2.2.1, e, s.1) else s
def aEm (k v : Nat) (s : PS) : PS := (s.1, s.2.1 ++ [(k, v)], s.2.2)
def aTab (v : Nat) (s : PS) : PS := if v < 6 then (s.1, s.2.1, s.2.2.1 ||| 2 ^ v, s.2.2.2) else s
def aPrt (k : Nat) (s : PS) : PS := (s.1, s.2.1, s.2.2.1, s.2.2.2.1 ||| 2 ^ k, s.2.2.2.2)
def aOpn (tk : Nat → Nat) (d : Nat) (s : PS) : Res := if tk s.1 = 7 ∧ 6 ≤ d then .inl (2, s.1) else aAcc tk 7 s
def aInt (tk tv : Nat → Nat) (lo hi : Nat) (s : PS) : Res := aAcc tk 2 (if tk s.1 = 2 ∧ (tv s.1 < lo ∨ hi < tv s.1) then aNote 5 s else s)
def ev (tk tv lk : Nat → Nat) : Nat → Nat → Nat → PS → Option Res
  | 0, _, _, _ => none
  | f + 1, md, d, s =>
    if md = 0 then
      (if tk s.1 = 2 then bO (some (aAcc tk 2 s)) (fun s1 => some (.inr (aEm 0 (tv s.1) s1)))
      else if tk s.1 = 1 then (if lk s.1 = 0 then bO (some (aAcc tk 1 (aNote 4 s))) (fun s1 => some (.inr (aEm 0 0 s1))) else bO (some (aAcc tk 1 s)) (fun s1 => some (.inr (aEm 4 (lk s.1 - 1) (aPrt (lk s.1 - 1) s1)))))
      else if 25 ≤ tk s.1 ∧ tk s.1 ≤ 27 then bO (some (aAcc tk (tk s.1) s)) (fun s1 => bO (some (aOpn tk d s1)) (fun s2 => bO (some (aInt tk tv 0 5 s2)) (fun s3 => some (aAcc tk 8 (aEm (tk s.1 - 24) (tv s2.1) (aTab (tv s2.1) s3))))))
      else if tk s.1 = 28 then bO (some (aAcc tk 28 s)) (fun s1 => bO (some (aOpn tk d s1)) (fun s2 => bO (ev tk tv lk f 3 (d + 1) s2) (fun s3 => bO (some (aAcc tk 5 s3)) (fun s4 => bO (ev tk tv lk f 3 (d + 1) s4) (fun s5 => bO (some (aAcc tk 8 s5)) (fun s6 => some (.inr (aEm 8 0 s6))))))))
      else if tk s.1 = 7 then bO (some (aOpn tk d s)) (fun s1 => bO (ev tk tv lk f 3 (d + 1) s1) (fun s2 => some (aAcc tk 8 s2)))
      else some (.inl (1, s.1)))
    else if md = 1 then bO (ev tk tv lk f 0 d s) (fun s1 => ev tk tv lk f 2 d s1)
    else if md = 2 then (if tk s.1 = 11 then bO (some (aAcc tk 11 s)) (fun s1 => bO (ev tk tv lk f 0 d s1) (fun s2 => ev tk tv lk f 2 d (aEm 7 0 s2))) else some (.inr s))
    else if md = 3 then bO (ev tk tv lk f 1 d s) (fun s1 => ev tk tv lk f 4 d s1)
    else (if tk s.1 = 9 ∨ tk s.1 = 10 then bO (some (aAcc tk (tk s.1) s)) (fun s1 => bO (ev tk tv lk f 1 d s1) (fun s2 => ev tk tv lk f 4 d (aEm (tk s.1 - 4) 0 s2))) else some (.inr s))
theorem bO_some {r : Option Res} {f : PS → Option Res} {q : Res} (h : bO r f = some q) : (∃ e, r = some (.inl e) ∧ q = .inl e) ∨ ∃ s, r = some (.inr s) ∧ f s = some q := by
  match r, h with
  | some (.inl e), h => exact Or.inl ⟨e, rfl, (Option.some.inj h).symm⟩
  | some (.inr s), h => exact Or.inr ⟨s, rfl, h⟩
theorem aAcc_ok {tk : Nat → Nat} {k : Nat} {s s' : PS} (h : aAcc tk k s = .inr s') : tk s.1 = k ∧ s.1 ≠ 400 ∧ s' = (s.1 + 1, s.2) := by
  unfold aAcc at h
  by_cases c : tk s.1 = k
  · rw [if_pos c] at h
    by_cases c2 : s.1 = 400
    · rw [if_pos c2] at h; cases h
    · rw [if_neg c2] at h
      exact ⟨c, c2, (Sum.inr.inj h).symm⟩
  · rw [if_neg c] at h; cases h
theorem aOpn_ok {tk : Nat → Nat} {d : Nat} {s s' : PS} (h : aOpn tk d s = .inr s') : d < 6 ∧ tk s.1 = 7 ∧ s.1 ≠ 400 ∧ s' = (s.1 + 1, s.2) := by
  unfold aOpn at h
  by_cases c : tk s.1 = 7 ∧ 6 ≤ d
  · rw [if_pos c] at h; cases h
  · rw [if_neg c] at h
    have := aAcc_ok h
    exact ⟨by rcases Nat.lt_or_ge d 6 with z | z; exact z; exact absurd ⟨this.1, z⟩ c, this⟩
theorem aNote_t (e : Nat) (s : PS) : (aNote e s).1 = s.1 := by unfold aNote; split <;> rfl
theorem aTab_t (v : Nat) (s : PS) : (aTab v s).1 = s.1 := by unfold aTab; split <;> rfl
theorem aInt_ok {tk tv : Nat → Nat} {lo hi : Nat} {s s' : PS} (h : aInt tk tv lo hi s = .inr s') : tk s.1 = 2 ∧ s.1 ≠ 400 ∧ s'.1 = s.1 + 1 ∧ ∃ s0, (s0 = s ∨ s0 = aNote 5 s) ∧ s' = (s.1 + 1, s0.2) := by
  unfold aInt at h
  obtain ⟨h1, h2, h3⟩ := aAcc_ok h
  by_cases c : tk s.1 = 2 ∧ (tv s.1 < lo ∨ hi < tv s.1)
  · rw [if_pos c] at h1 h2 h3
    rw [aNote_t] at h1 h2 h3
    exact ⟨h1, h2, by rw [h3], aNote 5 s, Or.inr rfl, h3⟩
  · rw [if_neg c] at h1 h2 h3
    exact ⟨h1, h2, by rw [h3], s, Or.inl rfl, h3⟩
/-- every part goes on by a token at least; a fault is not before -/
theorem ev_adv {tk tv lk : Nat → Nat} : ∀ f md d s r, s.1 ≤ 400 → ev tk tv lk f md d s = some r → (∀ s', r = .inr s' → s'.1 ≤ 400 ∧ s.1 ≤ s'.1 ∧ (md = 0 ∨ md = 1 ∨ md = 3 → s.1 < s'.1)) := by
  intro f
  induction f with
  | zero => intro md d s r _ h; cases h
  | succ f ih =>
    intro md d s r hs h s' hr
    subst hr
    rw [ev] at h
    have acc : ∀ {k : Nat} {a b : PS}, a.1 ≤ 400 → aAcc tk k a = .inr b → b.1 = a.1 + 1 ∧ b.1 ≤ 400 := fun ha hb => by
      obtain ⟨-, h2, h3⟩ := aAcc_ok hb
      rw [h3]; exact ⟨rfl, by show _ + 1 ≤ 400; omega⟩
    have opn : ∀ {d : Nat} {a b : PS}, a.1 ≤ 400 → aOpn tk d a = .inr b → b.1 = a.1 + 1 ∧ b.1 ≤ 400 := fun ha hb => by
      obtain ⟨-, -, h2, h3⟩ := aOpn_ok hb
      rw [h3]; exact ⟨rfl, by show _ + 1 ≤ 400; omega⟩
    by_cases m0 : md = 0
    · rw [if_pos m0] at h
      have goal : s'.1 ≤ 400 ∧ s.1 < s'.1 := by
        by_cases k2 : tk s.1 = 2
        · rw [if_pos k2] at h
          rcases bO_some h with ⟨e, -, h2⟩ | ⟨s1, h1, h2⟩
          · cases h2
          · have a1 := acc hs (Option.some.inj h1)
            have : s' = aEm 0 (tv s.1) s1 := (Sum.inr.inj (Option.some.inj h2)).symm
            rw [this]; show s1.1 ≤ 400 ∧ s.1 < s1.1; omega
        · rw [if_neg k2] at h
          by_cases k1 : tk s.1 = 1
          · rw [if_pos k1] at h
            by_cases kl : lk s.1 = 0
            · rw [if_pos kl] at h
              rcases bO_some h with ⟨e, -, h2⟩ | ⟨s1, h1, h2⟩
              · cases h2
              · have a1 := acc (by rw [aNote_t]; exact hs) (Option.some.inj h1)
                rw [aNote_t] at a1
                have : s' = aEm 0 0 s1 := (Sum.inr.inj (Option.some.inj h2)).symm
                rw [this]; show s1.1 ≤ 400 ∧ s.1 < s1.1; omega
            · rw [if_neg kl] at h
              rcases bO_some h with ⟨e, -, h2⟩ | ⟨s1, h1, h2⟩
              · cases h2
              · have a1 := acc hs (Option.some.inj h1)
                have : s' = aEm 4 (lk s.1 - 1) (aPrt (lk s.1 - 1) s1) := (Sum.inr.inj (Option.some.inj h2)).symm
                rw [this]; show s1.1 ≤ 400 ∧ s.1 < s1.1; omega
          · rw [if_neg k1] at h
            by_cases kt : 25 ≤ tk s.1 ∧ tk s.1 ≤ 27
            · rw [if_pos kt] at h
              rcases bO_some h with ⟨e, -, h2⟩ | ⟨s1, h1, h2⟩
              · cases h2
              · have a1 := acc hs (Option.some.inj h1)
                rcases bO_some h2 with ⟨e, -, h4⟩ | ⟨s2, h3, h4⟩
                · cases h4
                · have a2 := opn a1.2 (Option.some.inj h3)
                  rcases bO_some h4 with ⟨e, -, h6⟩ | ⟨s3, h5, h6⟩
                  · cases h6
                  · obtain ⟨-, i2, i3, -⟩ := aInt_ok (Option.some.inj h5)
                    have a4 := acc (a := aEm (tk s.1 - 24) (tv s2.1) (aTab (tv s2.1) s3)) (by show (aTab (tv s2.1) s3).1 ≤ 400; rw [aTab_t]; omega) (Option.some.inj h6)
                    have e4 : (aEm (tk s.1 - 24) (tv s2.1) (aTab (tv s2.1) s3)).1 = s3.1 := by show (aTab (tv s2.1) s3).1 = _; rw [aTab_t]
                    omega
            · rw [if_neg kt] at h
              by_cases km : tk s.1 = 28
              · rw [if_pos km] at h
                rcases bO_some h with ⟨e, -, h2⟩ | ⟨s1, h1, h2⟩
                · cases h2
                · have a1 := acc hs (Option.some.inj h1)
                  rcases bO_some h2 with ⟨e, -, h4⟩ | ⟨s2, h3, h4⟩
                  · cases h4
                  · have a2 := opn a1.2 (Option.some.inj h3)
                    rcases bO_some h4 with ⟨e, -, h6⟩ | ⟨s3, h5, h6⟩
                    · cases h6
                    · have a3 := ih 3 (d + 1) s2 _ a2.2 h5 s3 rfl
                      rcases bO_some h6 with ⟨e, -, h8⟩ | ⟨s4, h7, h8⟩
                      · cases h8
                      · have a4 := acc a3.1 (Option.some.inj h7)
                        rcases bO_some h8 with ⟨e, -, h10⟩ | ⟨s5, h9, h10⟩
                        · cases h10
                        · have a5 := ih 3 (d + 1) s4 _ a4.2 h9 s5 rfl
                          rcases bO_some h10 with ⟨e, -, h12⟩ | ⟨s6, h11, h12⟩
                          · cases h12
                          · have a6 := acc a5.1 (Option.some.inj h11)
                            have : s' = aEm 8 0 s6 := (Sum.inr.inj (Option.some.inj h12)).symm
                            rw [this]; show s6.1 ≤ 400 ∧ s.1 < s6.1; omega
              · rw [if_neg km] at h
                by_cases ko : tk s.1 = 7
                · rw [if_pos ko] at h
                  rcases bO_some h with ⟨e, -, h2⟩ | ⟨s1, h1, h2⟩
                  · cases h2
                  · have a1 := opn hs (Option.some.inj h1)
                    rcases bO_some h2 with ⟨e, -, h4⟩ | ⟨s2, h3, h4⟩
                    · cases h4
                    · have a2 := ih 3 (d + 1) s1 _ a1.2 h3 s2 rfl
                      have a3 := acc a2.1 (Option.some.inj h4)
                      omega
                · rw [if_neg ko] at h; cases h
      exact ⟨goal.1, Nat.le_of_lt goal.2, fun _ => goal.2⟩
    · rw [if_neg m0] at h
      by_cases m1 : md = 1
      · rw [if_pos m1] at h
        rcases bO_some h with ⟨e, -, h2⟩ | ⟨s1, h1, h2⟩
        · cases h2
        · have a1 := ih 0 d s _ hs h1 s1 rfl
          have a2 := ih 2 d s1 _ a1.1 h2 s' rfl
          have := a1.2.2 (Or.inl rfl)
          exact ⟨a2.1, by omega, fun _ => by omega⟩
      · rw [if_neg m1] at h
        by_cases m2 : md = 2
        · rw [if_pos m2] at h
          by_cases c : tk s.1 = 11
          · rw [if_pos c] at h
            rcases bO_some h with ⟨e, -, h2⟩ | ⟨s1, h1, h2⟩
            · cases h2
            · have a1 := acc hs (Option.some.inj h1)
              rcases bO_some h2 with ⟨e, -, h4⟩ | ⟨s2, h3, h4⟩
              · cases h4
              · have a2 := ih 0 d s1 _ a1.2 h3 s2 rfl
                have a3 := ih 2 d (aEm 7 0 s2) _ a2.1 h4 s' rfl
                have e3 : (aEm 7 0 s2).1 = s2.1 := rfl
                exact ⟨a3.1, by omega, fun z => by omega⟩
          · rw [if_neg c] at h
            have : s' = s := (Sum.inr.inj (Option.some.inj h)).symm
            rw [this]
            exact ⟨hs, Nat.le_refl _, fun z => by omega⟩
        · rw [if_neg m2] at h
          by_cases m3 : md = 3
          · rw [if_pos m3] at h
            rcases bO_some h with ⟨e, -, h2⟩ | ⟨s1, h1, h2⟩
            · cases h2
            · have a1 := ih 1 d s _ hs h1 s1 rfl
              have a2 := ih 4 d s1 _ a1.1 h2 s' rfl
              have := a1.2.2 (Or.inr (Or.inl rfl))
              exact ⟨a2.1, by omega, fun _ => by omega⟩
          · rw [if_neg m3] at h
            by_cases c : tk s.1 = 9 ∨ tk s.1 = 10
            · rw [if_pos c] at h
              rcases bO_some h with ⟨e, -, h2⟩ | ⟨s1, h1, h2⟩
              · cases h2
              · have a1 := acc hs (Option.some.inj h1)
                rcases bO_some h2 with ⟨e, -, h4⟩ | ⟨s2, h3, h4⟩
                · cases h4
                · have a2 := ih 1 d s1 _ a1.2 h3 s2 rfl
                  have a3 := ih 4 d (aEm (tk s.1 - 4) 0 s2) _ a2.1 h4 s' rfl
                  have e3 : (aEm (tk s.1 - 4) 0 s2).1 = s2.1 := rfl
                  exact ⟨a3.1, by omega, fun z => by omega⟩
            · rw [if_neg c] at h
              have : s' = s := (Sum.inr.inj (Option.some.inj h)).symm
              rw [this]
              exact ⟨hs, Nat.le_refl _, fun z => by omega⟩
