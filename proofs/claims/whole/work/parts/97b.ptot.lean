/-! ===== PURE: read: every E comes to an end ===== -/
theorem bO_tot {r : Option Res} {f : PS → Option Res} (h1 : ∃ q, r = some q) (h2 : ∀ s, r = some (.inr s) → ∃ q, f s = some q) : ∃ q, bO r f = some q := by
  obtain ⟨q, rfl⟩ := h1
  match q with
  | .inl e => exact ⟨_, rfl⟩
  | .inr s => exact h2 s rfl
def cmd (md : Nat) : Nat := if md = 1 then 2 else if md = 3 then 3 else 1
theorem ev_tot {tk tv lk : Nat → Nat} : ∀ f md d s, s.1 ≤ 400 → 4 * (401 - s.1) + cmd md ≤ f → ∃ r, ev tk tv lk f md d s = some r := by
  intro f
  induction f with
  | zero => intro md d s _ h; unfold cmd at h; split at h <;> (try split at h) <;> omega
  | succ f ih =>
    intro md d s hs h
    rw [ev]
    have acc : ∀ {k : Nat} {a b : PS}, a.1 ≤ 400 → aAcc tk k a = .inr b → b.1 = a.1 + 1 ∧ b.1 ≤ 400 := fun ha hb => by
      obtain ⟨-, h2, h3⟩ := aAcc_ok hb
      rw [h3]; exact ⟨rfl, by show _ + 1 ≤ 400; omega⟩
    have opn : ∀ {d : Nat} {a b : PS}, a.1 ≤ 400 → aOpn tk d a = .inr b → b.1 = a.1 + 1 ∧ b.1 ≤ 400 := fun ha hb => by
      obtain ⟨-, -, h2, h3⟩ := aOpn_ok hb
      rw [h3]; exact ⟨rfl, by show _ + 1 ≤ 400; omega⟩
    by_cases m0 : md = 0
    · rw [if_pos m0]
      have hm : cmd md = 1 := by rw [m0]; rfl
      split
      · exact bO_tot ⟨_, rfl⟩ (fun s1 _ => ⟨_, rfl⟩)
      · split
        · split
          · exact bO_tot ⟨_, rfl⟩ (fun s1 _ => ⟨_, rfl⟩)
          · exact bO_tot ⟨_, rfl⟩ (fun s1 _ => ⟨_, rfl⟩)
        · split
          · exact bO_tot ⟨_, rfl⟩ (fun s1 _ => bO_tot ⟨_, rfl⟩ (fun s2 _ => bO_tot ⟨_, rfl⟩ (fun s3 _ => ⟨_, rfl⟩)))
          · split
            · refine bO_tot ⟨_, rfl⟩ (fun s1 h1 => bO_tot ⟨_, rfl⟩ (fun s2 h2 => ?_))
              have a1 := acc hs (Option.some.inj h1)
              have a2 := opn a1.2 (Option.some.inj h2)
              refine bO_tot (ih 3 (d + 1) s2 a2.2 (by show 4 * (401 - s2.1) + 3 ≤ f; omega)) (fun s3 h3 => bO_tot ⟨_, rfl⟩ (fun s4 h4 => ?_))
              have a3 := ev_adv f 3 (d + 1) s2 _ a2.2 h3 s3 rfl
              have a4 := acc a3.1 (Option.some.inj h4)
              exact bO_tot (ih 3 (d + 1) s4 a4.2 (by show 4 * (401 - s4.1) + 3 ≤ f; omega)) (fun s5 h5 => bO_tot ⟨_, rfl⟩ (fun s6 _ => ⟨_, rfl⟩))
            · split
              · refine bO_tot ⟨_, rfl⟩ (fun s1 h1 => ?_)
                have a1 := opn hs (Option.some.inj h1)
                exact bO_tot (ih 3 (d + 1) s1 a1.2 (by show 4 * (401 - s1.1) + 3 ≤ f; omega)) (fun s2 _ => ⟨_, rfl⟩)
              · exact ⟨_, rfl⟩
    · rw [if_neg m0]
      by_cases m1 : md = 1
      · rw [if_pos m1]
        have hm : cmd md = 2 := by rw [m1]; rfl
        refine bO_tot (ih 0 d s hs (by show 4 * (401 - s.1) + 1 ≤ f; omega)) (fun s1 h1 => ?_)
        have a1 := ev_adv f 0 d s _ hs h1 s1 rfl
        exact ih 2 d s1 a1.1 (by show 4 * (401 - s1.1) + 1 ≤ f; omega)
      · rw [if_neg m1]
        by_cases m2 : md = 2
        · rw [if_pos m2]
          have hm : cmd md = 1 := by rw [m2]; rfl
          split
          · refine bO_tot ⟨_, rfl⟩ (fun s1 h1 => ?_)
            have a1 := acc hs (Option.some.inj h1)
            refine bO_tot (ih 0 d s1 a1.2 (by show 4 * (401 - s1.1) + 1 ≤ f; omega)) (fun s2 h2 => ?_)
            have a2 := ev_adv f 0 d s1 _ a1.2 h2 s2 rfl
            exact ih 2 d (aEm 7 0 s2) a2.1 (by show 4 * (401 - s2.1) + 1 ≤ f; omega)
          · exact ⟨_, rfl⟩
        · rw [if_neg m2]
          by_cases m3 : md = 3
          · rw [if_pos m3]
            have hm : cmd md = 3 := by rw [m3]; rfl
            refine bO_tot (ih 1 d s hs (by show 4 * (401 - s.1) + 2 ≤ f; omega)) (fun s1 h1 => ?_)
            have a1 := ev_adv f 1 d s _ hs h1 s1 rfl
            exact ih 4 d s1 a1.1 (by show 4 * (401 - s1.1) + 1 ≤ f; have := a1.2.2 (Or.inr (Or.inl rfl)); omega)
          · rw [if_neg m3]
            have hm : cmd md = 1 := by unfold cmd; rw [if_neg m1, if_neg m3]
            split
            · refine bO_tot ⟨_, rfl⟩ (fun s1 h1 => ?_)
              have a1 := acc hs (Option.some.inj h1)
              refine bO_tot (ih 1 d s1 a1.2 (by show 4 * (401 - s1.1) + 2 ≤ f; omega)) (fun s2 h2 => ?_)
              have a2 := ev_adv f 1 d s1 _ a1.2 h2 s2 rfl
              exact ih 4 d (aEm (tk s.1 - 4) 0 s2) a2.1 (by show 4 * (401 - s2.1) + 1 ≤ f; omega)
            · exact ⟨_, rfl⟩
