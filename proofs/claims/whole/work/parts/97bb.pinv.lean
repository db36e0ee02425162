/-! ===== PURE: read: what an E's code is like ===== -/
def ht2 : Nat → List (Nat × Nat) → Option Nat
  | h, [] => some h
  | h, (k, _) :: c => if k < 5 then ht2 (h + 1) c else if 2 ≤ h then ht2 (h - 1) c else none
theorem ht2_app : ∀ (c1 c2 : List (Nat × Nat)) (h : Nat), ht2 h (c1 ++ c2) = (ht2 h c1).bind (fun h' => ht2 h' c2) := by
  intro c1
  induction c1 with
  | nil => intro c2 h; rfl
  | cons x c1 ih =>
    intro c2 h
    obtain ⟨k, v⟩ := x
    show ht2 h ((k, v) :: (c1 ++ c2)) = _
    rw [ht2, ht2]
    split
    · exact ih c2 (h + 1)
    · split
      · exact ih c2 (h - 1)
      · rfl
def okE (K ot op : Nat) (x : Nat × Nat) : Prop := x.1 < 9 ∧ x.2 < 10000 ∧ (1 ≤ x.1 → x.1 ≤ 3 → x.2 < 6 ∧ ot.testBit x.2 = true) ∧ (x.1 = 4 → x.2 < K ∧ op.testBit x.2 = true)
def sub2 (a b : Nat) : Prop := ∀ x, a.testBit x = true → b.testBit x = true
theorem sub2_rf (a : Nat) : sub2 a a := fun _ h => h
theorem sub2_tr {a b c : Nat} (h1 : sub2 a b) (h2 : sub2 b c) : sub2 a c := fun x h => h2 x (h1 x h)
theorem okE_mono {K ot op ot' op' : Nat} {x : Nat × Nat} (h : okE K ot op x) (h1 : sub2 ot ot') (h2 : sub2 op op') : okE K ot' op' x := ⟨h.1, h.2.1, fun a b => ⟨(h.2.2.1 a b).1, h1 _ (h.2.2.1 a b).2⟩, fun a => ⟨(h.2.2.2 a).1, h2 _ (h.2.2.2 a).2⟩⟩
/-- from s to s' by code c -/
def stp (K : Nat) (c : List (Nat × Nat)) (s s' : PS) : Prop := s'.2.1 = s.2.1 ++ c ∧ c.length + s.1 ≤ s'.1 ∧ (s'.2.2.2.2.1 = 0 → s.2.2.2.2.1 = 0 ∧ ∀ x ∈ c, okE K s'.2.2.1 s'.2.2.2.1 x) ∧ sub2 s.2.2.1 s'.2.2.1 ∧ sub2 s.2.2.2.1 s'.2.2.2.1 ∧ (s.2.2.1 < 64 → s'.2.2.1 < 64) ∧ (s.2.2.2.1 < 2 ^ K → s'.2.2.2.1 < 2 ^ K) ∧ (s.2.2.2.2.1 < 9 → s'.2.2.2.2.1 < 9) ∧ ((s.2.2.2.2.1 ≠ 0 → s.2.2.2.2.2 < s.1) → s'.2.2.2.2.1 ≠ 0 → s'.2.2.2.2.2 < s'.1) ∧ (s.2.2.2.2.1 ≠ 0 → s'.2.2.2.2 = s.2.2.2.2)
theorem stp_rf (K : Nat) (s : PS) : stp K [] s s := ⟨(List.append_nil _).symm, by show 0 + s.1 ≤ s.1; omega, fun h => ⟨h, fun x hx => absurd hx (List.not_mem_nil)⟩, sub2_rf _, sub2_rf _, fun h => h, fun h => h, fun h => h, fun h => h, fun _ => rfl⟩
theorem stp_tr {K : Nat} {c1 c2 : List (Nat × Nat)} {s s1 s2 : PS} (h1 : stp K c1 s s1) (h2 : stp K c2 s1 s2) : stp K (c1 ++ c2) s s2 := by
  obtain ⟨a1, a2, a3, a4, a5, a6, a7, a8, a9, a10⟩ := h1
  obtain ⟨b1, b2, b3, b4, b5, b6, b7, b8, b9, b10⟩ := h2
  refine ⟨by rw [b1, a1, List.append_assoc], by rw [List.length_append]; omega, fun h => ?_, sub2_tr a4 b4, sub2_tr a5 b5, fun h => b6 (a6 h), fun h => b7 (a7 h), fun h => b8 (a8 h), fun h => b9 (a9 h), fun h => ?_⟩
  · obtain ⟨p1, p2⟩ := b3 h
    obtain ⟨q1, q2⟩ := a3 p1
    refine ⟨q1, fun x hx => ?_⟩
    rcases List.mem_append.mp hx with z | z
    · exact okE_mono (q2 x z) b4 b5
    · exact p2 x z
  · rw [b10 (by rw [a10 h]; exact h), a10 h]
theorem stp_acc {K : Nat} {tk : Nat → Nat} {k : Nat} {s s' : PS} (h : aAcc tk k s = .inr s') : stp K [] s s' ∧ s'.1 = s.1 + 1 ∧ s'.2 = s.2 := by
  obtain ⟨-, -, rfl⟩ := aAcc_ok h
  exact ⟨⟨(List.append_nil _).symm, by show 0 + s.1 ≤ s.1 + 1; omega, fun z => ⟨z, fun x hx => absurd hx (List.not_mem_nil)⟩, sub2_rf _, sub2_rf _, fun z => z, fun z => z, fun z => z, fun z y => by have : s.2.2.2.2.2 < s.1 := z y; show s.2.2.2.2.2 < s.1 + 1; omega, fun _ => rfl⟩, rfl, rfl⟩
theorem stp_opn {K : Nat} {tk : Nat → Nat} {d : Nat} {s s' : PS} (h : aOpn tk d s = .inr s') : stp K [] s s' ∧ s'.1 = s.1 + 1 ∧ s'.2 = s.2 := by
  unfold aOpn at h
  by_cases c : tk s.1 = 7 ∧ 6 ≤ d
  · rw [if_pos c] at h; cases h
  · rw [if_neg c] at h; exact stp_acc h
/-- a code that is emitted behind a token -/
theorem stp_em {K k v : Nat} {s : PS} {s' : PS} (h : stp K [] s s') (ht : s.1 + 1 ≤ s'.1) (hok : s'.2.2.2.2.1 = 0 → okE K s'.2.2.1 s'.2.2.2.1 (k, v)) : stp K [(k, v)] s (aEm k v s') := by
  obtain ⟨a1, a2, a3, a4, a5, a6, a7, a8, a9, a10⟩ := h
  refine ⟨?_, by show 1 + s.1 ≤ s'.1; omega, fun z => ⟨(a3 z).1, fun x hx => ?_⟩, a4, a5, a6, a7, a8, a9, a10⟩
  · show s'.2.1 ++ [(k, v)] = s.2.1 ++ [(k, v)]
    rw [a1, List.append_nil]
  · rw [List.mem_singleton] at hx
    rw [hx]; exact hok z
theorem stp_note {K e : Nat} (he : 0 < e) (he9 : e < 9) {s s' : PS} (h : stp K [] (aNote e s) s') (ht : s.1 < s'.1) : stp K [] s s' ∧ s'.2.2.2.2.1 ≠ 0 := by
  obtain ⟨a1, a2, a3, a4, a5, a6, a7, a8, a9, a10⟩ := h
  unfold aNote at *
  by_cases c : s.2.2.2.2.1 = 0
  · rw [if_pos c] at a1 a2 a3 a4 a5 a6 a7 a8 a9 a10
    have hne : e ≠ 0 := by omega
    have e10 := a10 hne
    refine ⟨⟨a1, a2, fun z => absurd (a3 z).1 hne, a4, a5, a6, a7, fun _ => a8 he9, fun _ y => ?_, fun z => absurd c z⟩, ?_⟩
    · rw [e10]; exact ht
    · rw [e10]; exact hne
  · rw [if_neg c] at a1 a2 a3 a4 a5 a6 a7 a8 a9 a10
    exact ⟨⟨a1, a2, a3, a4, a5, a6, a7, a8, a9, a10⟩, by rw [a10 c]; exact c⟩
theorem ev_inv {tk tv lk : Nat → Nat} {K : Nat} (hK7 : K ≤ 7) (htv : ∀ i, tk i = 2 → tv i < 10000) (hlk : ∀ i, tk i = 1 → lk i ≤ K) : ∀ f md d s s', ev tk tv lk f md d s = some (.inr s') → ∃ c, stp K c s s' ∧ ((md = 0 ∨ md = 1 ∨ md = 3) → ∀ h, ht2 h c = some (h + 1)) ∧ ((md = 0 ∨ md = 1 ∨ md = 3) ∨ ∀ h, 1 ≤ h → ht2 h c = some h) := by
  intro f
  induction f with
  | zero => intro md d s s' h; cases h
  | succ f ih =>
    intro md d s s' h
    rw [ev] at h
    by_cases m0 : md = 0
    · rw [if_pos m0] at h
      have goal : ∃ c, stp K c s s' ∧ ∀ h, ht2 h c = some (h + 1) := by
        by_cases k2 : tk s.1 = 2
        · rw [if_pos k2] at h
          rcases bO_some h with ⟨e, -, h2⟩ | ⟨s1, h1, h2⟩
          · cases h2
          · obtain ⟨a1, a2, a3⟩ := stp_acc (K := K) (Option.some.inj h1)
            have : s' = aEm 0 (tv s.1) s1 := (Sum.inr.inj (Option.some.inj h2)).symm
            rw [this]
            exact ⟨[(0, tv s.1)], stp_em a1 (by omega) (fun _ => ⟨by show 0 < 9; omega, htv _ k2, fun z => absurd z (by show ¬ 1 ≤ 0; omega), fun z => absurd z (by show ¬ 0 = 4; omega)⟩), fun h => rfl⟩
        · rw [if_neg k2] at h
          by_cases k1 : tk s.1 = 1
          · rw [if_pos k1] at h
            by_cases kl : lk s.1 = 0
            · rw [if_pos kl] at h
              rcases bO_some h with ⟨e, -, h2⟩ | ⟨s1, h1, h2⟩
              · cases h2
              · obtain ⟨a1, a2, a3⟩ := stp_acc (K := K) (Option.some.inj h1)
                rw [aNote_t] at a2
                obtain ⟨b1, b2⟩ := stp_note (by decide) (by decide) a1 (by omega)
                have : s' = aEm 0 0 s1 := (Sum.inr.inj (Option.some.inj h2)).symm
                rw [this]
                exact ⟨[(0, 0)], stp_em b1 (by omega) (fun z => absurd z b2), fun h => rfl⟩
            · rw [if_neg kl] at h
              rcases bO_some h with ⟨e, -, h2⟩ | ⟨s1, h1, h2⟩
              · cases h2
              · obtain ⟨a1, a2, a3⟩ := stp_acc (K := K) (Option.some.inj h1)
                have hl := hlk _ k1
                have : s' = aEm 4 (lk s.1 - 1) (aPrt (lk s.1 - 1) s1) := (Sum.inr.inj (Option.some.inj h2)).symm
                rw [this]
                have hp : lk s.1 - 1 < K := by omega
                have b1 : stp K [] s (aPrt (lk s.1 - 1) s1) := by
                  obtain ⟨q1, q2, q3, q4, q5, q6, q7, q8, q9, q10⟩ := a1
                  refine ⟨q1, q2, fun z => ⟨(q3 z).1, fun x hx => absurd hx List.not_mem_nil⟩, q4, fun x hx => ?_, q6, fun z => ?_, q8, q9, q10⟩
                  · show (s1.2.2.2.1 ||| 2 ^ (lk s.1 - 1)).testBit x = true
                    rw [testBit_set, q5 x hx]; rfl
                  · exact or_lt (q7 z) (Nat.pow_lt_pow_right (by decide) hp)
                refine ⟨[(4, lk s.1 - 1)], stp_em b1 (by show s.1 + 1 ≤ s1.1; omega) (fun _ => ⟨by show 4 < 9; omega, ?_, fun _ z => absurd z (by show ¬ 4 ≤ 3; omega), fun _ => ⟨hp, ?_⟩⟩), fun h => rfl⟩
                · show lk s.1 - 1 < 10000
                  omega
                · show (s1.2.2.2.1 ||| 2 ^ (lk s.1 - 1)).testBit (lk s.1 - 1) = true
                  rw [testBit_set]; simp
          · rw [if_neg k1] at h
            by_cases kt : 25 ≤ tk s.1 ∧ tk s.1 ≤ 27
            · rw [if_pos kt] at h
              rcases bO_some h with ⟨e, -, h2⟩ | ⟨s1, h1, h2⟩
              · cases h2
              · obtain ⟨a1, a2, a3⟩ := stp_acc (K := K) (Option.some.inj h1)
                rcases bO_some h2 with ⟨e, -, h4⟩ | ⟨s2, h3, h4⟩
                · cases h4
                · obtain ⟨b1, b2, b3⟩ := stp_opn (K := K) (Option.some.inj h3)
                  rcases bO_some h4 with ⟨e, -, h6⟩ | ⟨s3, h5, h6⟩
                  · cases h6
                  · have h5' := Option.some.inj h5
                    obtain ⟨i1, i2, i3, -⟩ := aInt_ok h5'
                    have hc : stp K [] s2 s3 ∧ (s3.2.2.2.2.1 = 0 → tv s2.1 < 6) := by
                      unfold aInt at h5'
                      by_cases b : tk s2.1 = 2 ∧ (tv s2.1 < 0 ∨ 5 < tv s2.1)
                      · rw [if_pos b] at h5'
                        obtain ⟨q1, q2, -⟩ := stp_acc (K := K) h5'
                        rw [aNote_t] at q2
                        obtain ⟨w1, w2⟩ := stp_note (by decide) (by decide) q1 (by omega)
                        exact ⟨w1, fun z => absurd z w2⟩
                      · rw [if_neg b] at h5'
                        obtain ⟨q1, -, -⟩ := stp_acc (K := K) h5'
                        exact ⟨q1, fun _ => by
                          rcases Nat.lt_or_ge (tv s2.1) 6 with z | z
                          · exact z
                          · exact absurd ⟨i1, Or.inr (by omega)⟩ b⟩
                    obtain ⟨c1, c2⟩ := hc
                    have t1 : stp K [] s2 (aTab (tv s2.1) s3) := by
                      unfold aTab
                      by_cases b : tv s2.1 < 6
                      · rw [if_pos b]
                        obtain ⟨q1, q2, q3, q4, q5, q6, q7, q8, q9, q10⟩ := c1
                        exact ⟨q1, q2, fun z => ⟨(q3 z).1, fun x hx => absurd hx List.not_mem_nil⟩, fun x hx => by show (s3.2.2.1 ||| 2 ^ tv s2.1).testBit x = true; rw [testBit_set, q4 x hx]; rfl, q5, fun z => or_lt (n := 6) (q6 z) (Nat.pow_lt_pow_right (by decide) b), q7, q8, q9, q10⟩
                      · rw [if_neg b]; exact c1
                    have t2 := stp_tr a1 (stp_tr b1 t1)
                    have t3 : stp K [(tk s.1 - 24, tv s2.1)] s (aEm (tk s.1 - 24) (tv s2.1) (aTab (tv s2.1) s3)) := stp_em t2 (by rw [aTab_t]; omega) (fun z => by
                      have z' : s3.2.2.2.2.1 = 0 := by
                        unfold aTab at z
                        split at z <;> exact z
                      have hv := c2 z'
                      refine ⟨by show tk s.1 - 24 < 9; omega, by show tv s2.1 < 10000; omega, fun _ _ => ⟨hv, ?_⟩, fun y => absurd y (by show ¬ tk s.1 - 24 = 4; omega)⟩
                      unfold aTab
                      rw [if_pos hv]
                      show (s3.2.2.1 ||| 2 ^ tv s2.1).testBit (tv s2.1) = true
                      rw [testBit_set]; simp)
                    obtain ⟨u1, u2, u3⟩ := stp_acc (K := K) (Option.some.inj h6)
                    refine ⟨[(tk s.1 - 24, tv s2.1)], ?_, fun h => ?_⟩
                    · have := stp_tr t3 u1
                      rw [List.append_nil] at this; exact this
                    · rw [ht2, if_pos (by omega), ht2]
            · rw [if_neg kt] at h
              by_cases km : tk s.1 = 28
              · rw [if_pos km] at h
                rcases bO_some h with ⟨e, -, h2⟩ | ⟨s1, h1, h2⟩
                · cases h2
                · obtain ⟨a1, a2, a3⟩ := stp_acc (K := K) (Option.some.inj h1)
                  rcases bO_some h2 with ⟨e, -, h4⟩ | ⟨s2, h3, h4⟩
                  · cases h4
                  · obtain ⟨b1, b2, b3⟩ := stp_opn (K := K) (Option.some.inj h3)
                    rcases bO_some h4 with ⟨e, -, h6⟩ | ⟨s3, h5, h6⟩
                    · cases h6
                    · obtain ⟨c3, d1, d2, -⟩ := ih 3 (d + 1) s2 s3 h5
                      rcases bO_some h6 with ⟨e, -, h8⟩ | ⟨s4, h7, h8⟩
                      · cases h8
                      · obtain ⟨e1, e2, e3⟩ := stp_acc (K := K) (Option.some.inj h7)
                        rcases bO_some h8 with ⟨e, -, h10⟩ | ⟨s5, h9, h10⟩
                        · cases h10
                        · obtain ⟨c5, g1, g2, -⟩ := ih 3 (d + 1) s4 s5 h9
                          rcases bO_some h10 with ⟨e, -, h12⟩ | ⟨s6, h11, h12⟩
                          · cases h12
                          · obtain ⟨k1', k2', k3'⟩ := stp_acc (K := K) (Option.some.inj h11)
                            have : s' = aEm 8 0 s6 := (Sum.inr.inj (Option.some.inj h12)).symm
                            rw [this]
                            have t1 := stp_tr a1 (stp_tr b1 (stp_tr d1 (stp_tr e1 g1)))
                            have t2 : stp K [(8, 0)] s5 (aEm 8 0 s6) := stp_em k1' (by omega) (fun _ => ⟨by show 8 < 9; omega, by show 0 < 10000; omega, fun _ z => absurd z (by show ¬ 8 ≤ 3; omega), fun z => absurd z (by show ¬ 8 = 4; omega)⟩)
                            refine ⟨_, stp_tr t1 t2, fun h => ?_⟩
                            rw [List.nil_append, List.nil_append, List.nil_append, ht2_app, ht2_app, d2 (Or.inr (Or.inr rfl)) h, Option.bind_some, g2 (Or.inr (Or.inr rfl)) (h + 1), Option.bind_some, ht2, if_neg (by decide), if_pos (by omega), ht2]
                            rfl
              · rw [if_neg km] at h
                by_cases ko : tk s.1 = 7
                · rw [if_pos ko] at h
                  rcases bO_some h with ⟨e, -, h2⟩ | ⟨s1, h1, h2⟩
                  · cases h2
                  · obtain ⟨a1, a2, a3⟩ := stp_opn (K := K) (Option.some.inj h1)
                    rcases bO_some h2 with ⟨e, -, h4⟩ | ⟨s2, h3, h4⟩
                    · cases h4
                    · obtain ⟨c, d1, d2, -⟩ := ih 3 (d + 1) s1 s2 h3
                      obtain ⟨e1, e2, e3⟩ := stp_acc (K := K) (Option.some.inj h4)
                      refine ⟨c, ?_, d2 (Or.inr (Or.inr rfl))⟩
                      have := stp_tr a1 (stp_tr d1 e1)
                      rw [List.append_nil, List.nil_append] at this; exact this
                · rw [if_neg ko] at h; cases h
      obtain ⟨c, g1, g2⟩ := goal
      exact ⟨c, g1, fun _ => g2, Or.inl (Or.inl m0)⟩
    · rw [if_neg m0] at h
      by_cases m1 : md = 1
      · rw [if_pos m1] at h
        rcases bO_some h with ⟨e, -, h2⟩ | ⟨s1, h1, h2⟩
        · cases h2
        · obtain ⟨c1, a1, a2, -⟩ := ih 0 d s s1 h1
          obtain ⟨c2, b1, -, b2⟩ := ih 2 d s1 s' h2
          have b3 := b2.resolve_left (by omega)
          refine ⟨c1 ++ c2, stp_tr a1 b1, fun _ h => ?_, Or.inl (Or.inr (Or.inl m1))⟩
          rw [ht2_app, a2 (Or.inl rfl) h, Option.bind_some, b3 (h + 1) (by omega)]
      · rw [if_neg m1] at h
        by_cases m2 : md = 2
        · rw [if_pos m2] at h
          by_cases c : tk s.1 = 11
          · rw [if_pos c] at h
            rcases bO_some h with ⟨e, -, h2⟩ | ⟨s1, h1, h2⟩
            · cases h2
            · obtain ⟨a1, a2, a3⟩ := stp_acc (K := K) (Option.some.inj h1)
              rcases bO_some h2 with ⟨e, -, h4⟩ | ⟨s2, h3, h4⟩
              · cases h4
              · obtain ⟨c1, b1, b2, -⟩ := ih 0 d s1 s2 h3
                obtain ⟨c2, d1, -, d2⟩ := ih 2 d (aEm 7 0 s2) s' h4
                have d3 := d2.resolve_left (by omega)
                have t1 : stp K (c1 ++ [(7, 0)]) s (aEm 7 0 s2) := by
                  obtain ⟨q1, q2, q3, q4, q5, q6, q7, q8, q9, q10⟩ := stp_tr a1 b1
                  rw [List.nil_append] at q1 q2 q3
                  obtain ⟨p1, p2, -⟩ := b1
                  refine ⟨?_, ?_, fun z => ⟨(q3 z).1, fun x hx => ?_⟩, q4, q5, q6, q7, q8, q9, q10⟩
                  · show s2.2.1 ++ [(7, 0)] = s.2.1 ++ (c1 ++ [(7, 0)])
                    rw [q1, List.append_assoc]
                  · rw [List.length_append]; show c1.length + 1 + s.1 ≤ s2.1; omega
                  · rcases List.mem_append.mp hx with y | y
                    · exact (q3 z).2 x y
                    · rw [List.mem_singleton] at y
                      rw [y]
                      exact ⟨by show 7 < 9; omega, by show 0 < 10000; omega, fun _ z => absurd z (by show ¬ 7 ≤ 3; omega), fun z => absurd z (by show ¬ 7 = 4; omega)⟩
                refine ⟨_, stp_tr t1 d1, fun z => by omega, Or.inr (fun h hh => ?_)⟩
                rw [ht2_app, ht2_app, b2 (Or.inl rfl) h, Option.bind_some, ht2, if_neg (by decide), if_pos (by omega), ht2, Option.bind_some]
                exact d3 h hh
          · rw [if_neg c] at h
            have : s' = s := (Sum.inr.inj (Option.some.inj h)).symm
            rw [this]
            exact ⟨[], stp_rf K s, fun z => by omega, Or.inr (fun h _ => rfl)⟩
        · rw [if_neg m2] at h
          by_cases m3 : md = 3
          · rw [if_pos m3] at h
            rcases bO_some h with ⟨e, -, h2⟩ | ⟨s1, h1, h2⟩
            · cases h2
            · obtain ⟨c1, a1, a2, -⟩ := ih 1 d s s1 h1
              obtain ⟨c2, b1, -, b2⟩ := ih 4 d s1 s' h2
              have b3 := b2.resolve_left (by omega)
              refine ⟨c1 ++ c2, stp_tr a1 b1, fun _ h => ?_, Or.inl (Or.inr (Or.inr m3))⟩
              rw [ht2_app, a2 (Or.inr (Or.inl rfl)) h, Option.bind_some, b3 (h + 1) (by omega)]
          · rw [if_neg m3] at h
            by_cases c : tk s.1 = 9 ∨ tk s.1 = 10
            · rw [if_pos c] at h
              rcases bO_some h with ⟨e, -, h2⟩ | ⟨s1, h1, h2⟩
              · cases h2
              · obtain ⟨a1, a2, a3⟩ := stp_acc (K := K) (Option.some.inj h1)
                rcases bO_some h2 with ⟨e, -, h4⟩ | ⟨s2, h3, h4⟩
                · cases h4
                · obtain ⟨c1, b1, b2, -⟩ := ih 1 d s1 s2 h3
                  obtain ⟨c2, d1, -, d2⟩ := ih 4 d (aEm (tk s.1 - 4) 0 s2) s' h4
                  have d3 := d2.resolve_left (by omega)
                  have t1 : stp K (c1 ++ [(tk s.1 - 4, 0)]) s (aEm (tk s.1 - 4) 0 s2) := by
                    obtain ⟨q1, q2, q3, q4, q5, q6, q7, q8, q9, q10⟩ := stp_tr a1 b1
                    rw [List.nil_append] at q1 q2 q3
                    obtain ⟨p1, p2, -⟩ := b1
                    refine ⟨?_, ?_, fun z => ⟨(q3 z).1, fun x hx => ?_⟩, q4, q5, q6, q7, q8, q9, q10⟩
                    · show s2.2.1 ++ [(tk s.1 - 4, 0)] = s.2.1 ++ (c1 ++ [(tk s.1 - 4, 0)])
                      rw [q1, List.append_assoc]
                    · rw [List.length_append]; show c1.length + 1 + s.1 ≤ s2.1; omega
                    · rcases List.mem_append.mp hx with y | y
                      · exact (q3 z).2 x y
                      · rw [List.mem_singleton] at y
                        rw [y]
                        exact ⟨by show tk s.1 - 4 < 9; omega, by show 0 < 10000; omega, fun _ z => absurd z (by show ¬ tk s.1 - 4 ≤ 3; omega), fun z => absurd z (by show ¬ tk s.1 - 4 = 4; omega)⟩
                  refine ⟨_, stp_tr t1 d1, fun z => by omega, Or.inr (fun h hh => ?_)⟩
                  rw [ht2_app, ht2_app, b2 (Or.inr (Or.inl rfl)) h, Option.bind_some, ht2, if_neg (by omega), if_pos (by omega), ht2, Option.bind_some]
                  exact d3 h hh
            · rw [if_neg c] at h
              have : s' = s := (Sum.inr.inj (Option.some.inj h)).symm
              rw [this]
              exact ⟨[], stp_rf K s, fun z => by omega, Or.inr (fun h _ => rfl)⟩
