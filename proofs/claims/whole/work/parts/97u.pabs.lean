/-! ===== PURE: read: what the STEPS of a text without a FAULT are like ===== -/
theorem int_rng {tk tv : Nat → Nat} {lo hi : Nat} {s s' : PS} (h : aInt tk tv lo hi s = .inr s') (z : s'.2.2.2.2.1 = 0) : lo ≤ tv s.1 ∧ tv s.1 ≤ hi := by
  obtain ⟨i1, -, -, -⟩ := aInt_ok h
  by_cases b : tv s.1 < lo ∨ hi < tv s.1
  · exfalso
    unfold aInt at h
    rw [if_pos ⟨i1, b⟩] at h
    rw [(aAcc_ok h).2.2] at z
    have z' : (aNote 5 s).2.2.2.2.1 = 0 := z
    unfold aNote at z'
    split at z'
    · have : 5 = 0 := z'
      omega
    · exact absurd z' (by assumption)
  · omega
theorem tl_rng {tk tv : Nat → Nat} {rep : Bool} {s s' : PS} (h : aTl tk tv rep s = .inr s') (z : s'.2.2.2.2.1 = 0) : (1 ≤ tv (s.1 + 1) ∧ tv (s.1 + 1) ≤ 20) ∧ (rep = true → tv (s.1 + 3) ≤ 399 ∧ tv (s.1 + 5) ≤ 100) := by
  obtain ⟨s3, y3, y4⟩ := bS_ok h
  obtain ⟨s4, y5, y6⟩ := bS_ok y4
  obtain ⟨s8, y7, y8⟩ := bS_ok y6
  have k3 := kp_acc y3
  have k4 := kp_int y5
  have k8 := kp_acc y8
  have z8 := k8.1.2.2.2.2 z
  cases rep with
  | false =>
    have y7' : (Sum.inr s4 : Res) = .inr s8 := y7
    obtain rfl := Sum.inr.inj y7'
    have r4 := int_rng y5 z8
    rw [k3.2.1] at r4
    exact ⟨r4, fun q => by cases q⟩
  | true =>
    have y7' : bS (aAcc tk 23 s4) (fun s5 => bS (aInt tk tv 0 399 s5) (fun s6 => bS (aAcc tk 24 s6) (aInt tk tv 0 100))) = .inr s8 := y7
    obtain ⟨s5, z1, z2⟩ := bS_ok y7'
    obtain ⟨s6, z3, z4⟩ := bS_ok z2
    obtain ⟨s7, z5, z6⟩ := bS_ok z4
    have j5 := kp_acc z1
    have j6 := kp_int z3
    have j7 := kp_acc z5
    have j8 := kp_int z6
    have q7 := j8.1.2.2.2.2 z8
    have q6 := j7.1.2.2.2.2 q7
    have q5 := j6.1.2.2.2.2 q6
    have q4 := j5.1.2.2.2.2 q5
    have r4 := int_rng y5 q4
    have r6 := int_rng z3 q6
    have r8 := int_rng z6 z8
    rw [show s3.1 = s.1 + 1 by omega] at r4
    rw [show s5.1 = s.1 + 3 by omega] at r6
    rw [show s7.1 = s.1 + 5 by omega] at r8
    exact ⟨r4, fun _ => ⟨r6.2, r8.2⟩⟩
theorem aStep_inv {tk tv lk : Nat → Nat} {tw : Nat → Bool} {K f : Nat} {s s' : PS} {rep : Bool} (hK : K < 7) (htv : ∀ i, tk i = 2 → tv i < 10000) (hlk : ∀ i, tk i = 1 → lk i ≤ K) (hrep : rep = decide (tk s.1 = 22)) (h : aStep tk tv lk tw f s = some (.inr s')) :
    ∃ c, s'.2.1 = s.2.1 ++ c ∧ (∀ h, ht2 h c = some (h + 1)) ∧ s'.2.2.1 < 64 ∧ s'.2.2.2.1 < 2 ^ K ∧ s.1 + 1 < s'.1 ∧ tk (s.1 + 1) = 1 ∧ (s'.2.2.2.2.1 = 0 → s.2.2.2.2.1 = 0 ∧ (∀ x ∈ c, okE K s'.2.2.1 s'.2.2.2.1 x) ∧ (1 ≤ tv (s.1 + 3) ∧ tv (s.1 + 3) ≤ 20) ∧ (rep = true → tv (s.1 + 5) ≤ 399 ∧ tv (s.1 + 7) ≤ 100)) := by
  unfold aStep at h
  rw [← hrep] at h
  rcases bO_some h with ⟨e, -, q⟩ | ⟨s9, g1, g2⟩
  · cases q
  · rcases bO_some g2 with ⟨e, -, q⟩ | ⟨s10, g3, g4⟩
    · cases q
    · obtain ⟨s2, y1, y2⟩ := bS_ok (Option.some.inj g1)
      obtain ⟨s1, y3, y4⟩ := bS_ok y1
      have k1 := kp_acc y3
      have k2 := aNm_ok y4
      have k3 := kp_tl y2
      have es' := (aAcc_ok (Option.some.inj g4)).2.2
      obtain ⟨c, v1, v2, -⟩ := ev_inv (tk := tk) (tv := tv) (lk := lk) (K := K) (by omega) htv hlk f 3 0 s9 s10 g3
      have e1 : s1.1 = s.1 + 1 := k1.2.1
      have e2 : s2.1 = s1.1 + 1 := k2.2.1
      have l3 : s2.1 < s9.1 := k3.2.1
      obtain ⟨a1, a2, a3, -, -, a6, a7, -⟩ := v1
      have o9 : s9.2.2.1 = 0 := by rw [k3.1.2.1, k2.1.2.1, k1.1.2.1]; rfl
      have p9 : s9.2.2.2.1 = 0 := by rw [k3.1.2.2.1, k2.1.2.2.1, k1.1.2.2.1]; rfl
      refine ⟨c, ?_, v2 (Or.inr (Or.inr rfl)), ?_, ?_, ?_, ?_, fun z => ?_⟩
      · rw [es']; show s10.2.1 = _; rw [a1, k3.1.1, k2.1.1, k1.1.1]; rfl
      · rw [es']; exact a6 (by rw [o9]; decide)
      · rw [es']; exact a7 (by rw [p9]; exact Nat.two_pow_pos K)
      · rw [es']; show s.1 + 1 < s10.1 + 1; omega
      · rw [← e1]; exact k2.2.2.1
      · rw [es'] at z ⊢
        have z10 : s10.2.2.2.2.1 = 0 := z
        obtain ⟨z9, ok⟩ := a3 z10
        have z2 := k3.1.2.2.2.2 z9
        have z1 := k2.1.2.2.2.2 z2
        have r := tl_rng y2 z9
        rw [show s2.1 + 1 = s.1 + 3 by omega, show s2.1 + 3 = s.1 + 5 by omega, show s2.1 + 5 = s.1 + 7 by omega] at r
        exact ⟨k1.1.2.2.2.2 z1, ok, r.1, r.2⟩
/-- one step and its code -/
def stK (rp : Nat) (D : Nat → Nat → Nat) (C : List (Nat × Nat)) (k : Nat) : Prop :=
  (1 ≤ D 0 k ∧ D 0 k ≤ 20 ∧ D 1 k ≤ 399 ∧ D 2 k ≤ 100 ∧ (rp.testBit k = false → D 1 k = 0 ∧ D 2 k = 0) ∧ D 3 k < 64 ∧ D 4 k < 2 ^ k ∧ D 5 k < 64 ∧ (∀ x, (D 3 k).testBit x = true → (D 5 k).testBit x = true) ∧ (∀ j, (D 4 k).testBit j = true → ∀ x, (D 5 j).testBit x = true → (D 5 k).testBit x = true)) ∧
  ∃ c, (if k = 0 then 0 else D 21 (k - 1)) + c.length = D 21 k ∧ D 21 k ≤ C.length ∧ (∀ i, i < c.length → C.getD ((if k = 0 then 0 else D 21 (k - 1)) + i) (0, 0) = c.getD i (0, 0)) ∧ (∀ h, ht2 h c = some (h + 1)) ∧ ∀ x ∈ c, okE k (D 3 k) (D 4 k) x
theorem bit_lt {a j k : Nat} (h : a < 2 ^ k) (hb : a.testBit j = true) : j < k := by
  rcases Nat.lt_or_ge j k with z | z
  · exact z
  · rw [Nat.testBit_lt_two_pow (Nat.lt_of_lt_of_le h (Nat.pow_le_pow_right (by decide) z))] at hb; cases hb
theorem getD_l {C c : List (Nat × Nat)} {i : Nat} (h : i < C.length) : (C ++ c).getD i (0, 0) = C.getD i (0, 0) := by
  rw [List.getD_eq_getElem?_getD, List.getD_eq_getElem?_getD, List.getElem?_append_left h]
theorem getD_r {C c : List (Nat × Nat)} {i : Nat} : (C ++ c).getD (C.length + i) (0, 0) = c.getD i (0, 0) := by
  rw [List.getD_eq_getElem?_getD, List.getD_eq_getElem?_getD, List.getElem?_append_right (Nat.le_add_right _ _), Nat.add_sub_cancel_left]
theorem rpN_bit {rp K k : Nat} {rep : Bool} (h : k ≠ K) : (rpN rp K rep).testBit k = rp.testBit k := by
  unfold rpN; split
  · rw [testBit_set, decide_eq_false (fun q => h q.symm), Bool.or_false]
  · rfl
theorem nD_ne {D : Nat → Nat → Nat} {tv : Nat → Nat} {K t : Nat} {rep : Bool} {s : PS} (j : Nat) {k : Nat} (q : k ≠ K) : nD D tv K t rep s j k = D j k := by unfold nD; rw [if_neg q]
theorem oA_lt {op : Nat} {al : Nat → Nat} {ot : Nat} (h : ot < 64) : ∀ k, (∀ j, j < k → al j < 64) → oA op al ot k < 64 := by
  intro k
  induction k with
  | zero => intro _; exact h
  | succ k ih =>
    intro ha
    have := ih (fun j hj => ha j (by omega))
    rw [oA]; split
    · exact or_lt (n := 6) this (ha k (by omega))
    · exact this
theorem stK_step {tk tv lk : Nat → Nat} {tw : Nat → Bool} {rp K f : Nat} {D : Nat → Nat → Nat} {s s' : PS} {rep : Bool} (hK : K < 7) (htv : ∀ i, tk i = 2 → tv i < 10000) (hlk : ∀ i, tk i = 1 → lk i ≤ K) (hrp : rp < 2 ^ K) (hrep : rep = decide (tk s.1 = 22)) (h : aStep tk tv lk tw f s = some (.inr s')) (h5 : ∀ k, k < K → D 5 k < 64) (hl : s.2.1.length = (if K = 0 then 0 else D 21 (K - 1))) (hA : s.2.2.2.2.1 = 0 → ∀ k, k < K → stK rp D s.2.1 k) (z : s'.2.2.2.2.1 = 0) : ∀ k, k < K + 1 → stK (rpN rp K rep) (nD D tv K s.1 rep s') s'.2.1 k := by
  obtain ⟨c, a1, a2, a3, a4, -, -, a7⟩ := aStep_inv hK htv hlk hrep h
  obtain ⟨z0, ok, r1, r2⟩ := a7 z
  intro k hk
  by_cases q : k = K
  · subst q
    have e0' : nD D tv k s.1 rep s' 0 k = tv (s.1 + 3) := by unfold nD; rw [if_pos rfl]; rfl
    have e1' : nD D tv k s.1 rep s' 1 k = if rep = true then tv (s.1 + 5) else 0 := by unfold nD; rw [if_pos rfl]; rfl
    have e2' : nD D tv k s.1 rep s' 2 k = if rep = true then tv (s.1 + 7) else 0 := by unfold nD; rw [if_pos rfl]; rfl
    have e3' : nD D tv k s.1 rep s' 3 k = s'.2.2.1 := by unfold nD; rw [if_pos rfl]; rfl
    have e4' : nD D tv k s.1 rep s' 4 k = s'.2.2.2.1 := by unfold nD; rw [if_pos rfl]; rfl
    have e5' : nD D tv k s.1 rep s' 5 k = oA s'.2.2.2.1 (D 5) s'.2.2.1 k := by unfold nD; rw [if_pos rfl]; rfl
    have e21 : nD D tv k s.1 rep s' 21 k = s'.2.1.length := by unfold nD; rw [if_pos rfl]; rfl
    have eb : (if k = 0 then 0 else nD D tv k s.1 rep s' 21 (k - 1)) = s.2.1.length := by
      rw [hl]
      by_cases q0 : k = 0
      · rw [if_pos q0, if_pos q0]
      · rw [if_neg q0, if_neg q0, nD_ne 21 (by omega)]
    unfold stK
    rw [eb, e0', e1', e2', e3', e4', e5', e21]
    refine ⟨⟨r1.1, r1.2, ?_, ?_, fun y => ?_, a3, a4, oA_lt a3 k h5, fun x hx => (oA_bit k).mpr (Or.inl hx), fun j hj x hx => ?_⟩, c, ?_, Nat.le_refl _, fun i hi => ?_, a2, ok⟩
    · split
      · rename_i qr; exact (r2 qr).1
      · exact Nat.zero_le _
    · split
      · rename_i qr; exact (r2 qr).2
      · exact Nat.zero_le _
    · unfold rpN at y
      by_cases qr : rep = true
      · rw [if_pos qr, testBit_set, decide_eq_true rfl, Bool.or_true] at y; cases y
      · rw [if_neg qr, if_neg qr]; exact ⟨rfl, rfl⟩
    · have hj' := bit_lt a4 hj
      rw [nD_ne 5 (by omega)] at hx
      exact (oA_bit k).mpr (Or.inr ⟨j, hj', hj, hx⟩)
    · rw [a1, List.length_append]
    · rw [a1]; exact getD_r
  · obtain ⟨⟨b1, b2, b3, b4, b5, b6, b7, b8, b9, b10⟩, c', c1, c2, c3, c4, c5⟩ := hA z0 k (by omega)
    unfold stK
    rw [nD_ne 0 q, nD_ne 1 q, nD_ne 2 q, nD_ne 3 q, nD_ne 4 q, nD_ne 5 q, nD_ne 21 q, nD_ne 21 (show k - 1 ≠ K by omega), rpN_bit q]
    refine ⟨⟨b1, b2, b3, b4, b5, b6, b7, b8, b9, fun j hj x hx => ?_⟩, c', c1, ?_, fun i hi => ?_, c4, c5⟩
    · have := bit_lt b7 hj
      rw [nD_ne 5 (by omega)] at hx
      exact b10 j hj x hx
    · rw [a1, List.length_append]; omega
    · rw [a1, getD_l (by omega)]; exact c3 i hi
theorem htA_seg {ck : Nat → Nat} {b : Nat} : ∀ (n : Nat) (c : List (Nat × Nat)), c.length = n → (∀ i, i < c.length → ck (b + i) = (c.getD i (0, 0)).1) → ∀ h', ht2 0 c = some h' → htA ck b c.length = h' ∧ ∀ i, i < c.length → 5 ≤ ck (b + i) → 2 ≤ htA ck b i := by
  intro n
  induction n with
  | zero =>
    intro c hc hk h' hh
    have e : c = [] := List.length_eq_zero_iff.mp hc
    subst e
    exact ⟨(Option.some.inj hh), fun i hi => absurd hi (Nat.not_lt_zero i)⟩
  | succ n ih =>
    intro c hc hk h' hh
    rcases List.eq_nil_or_concat c with e | ⟨l, x, e⟩
    · rw [e] at hc; cases hc
    · rw [List.concat_eq_append] at e
      subst e
      have hl : l.length = n := by rw [List.length_append] at hc; simpa using hc
      have hL : (l ++ [x]).length = l.length + 1 := by rw [List.length_append]; rfl
      rw [hL] at hk
      rw [ht2_app] at hh
      obtain ⟨h1, g1, g2⟩ := Option.bind_eq_some_iff.mp hh
      have hk' : ∀ i, i < l.length → ck (b + i) = (l.getD i (0, 0)).1 := fun i hi => by
        have := hk i (by omega)
        rw [getD_app2, if_pos hi] at this; exact this
      have hx : ck (b + l.length) = x.1 := by
        have := hk l.length (by omega)
        rw [getD_app2, if_neg (Nat.lt_irrefl _), if_pos rfl] at this; exact this
      obtain ⟨i1, i2⟩ := ih l hl hk' h1 g1
      rw [hL, htA, hx, i1]
      obtain ⟨k, v⟩ := x
      have g2' : (if k < 5 then ht2 (h1 + 1) [] else if 2 ≤ h1 then ht2 (h1 - 1) [] else none) = some h' := g2
      by_cases c5 : k < 5
      · rw [if_pos c5] at g2'
        refine ⟨by rw [if_pos (show (k, v).1 < 5 from c5)]; exact Option.some.inj g2', fun i hi h5 => ?_⟩
        by_cases q : i = l.length
        · rw [q, hx] at h5; have : 5 ≤ k := h5; omega
        · exact i2 i (by omega) h5
      · rw [if_neg c5] at g2'
        by_cases c2 : 2 ≤ h1
        · rw [if_pos c2] at g2'
          refine ⟨by rw [if_neg (show ¬ (k, v).1 < 5 from c5)]; exact Option.some.inj g2', fun i hi h5 => ?_⟩
          by_cases q : i = l.length
          · rw [q, i1]; exact c2
          · exact i2 i (by omega) h5
        · rw [if_neg c2] at g2'; cases g2'
/-- names: what the class and the reference find -/
theorem lkF_none {nx : Nat → Int64} {rp : Nat} {w : Int64} : ∀ d k, (∀ j, k ≤ j → j < k + d → nx j ≠ w) → lkF nx rp w k d = 0 := by
  intro d
  induction d with
  | zero => intro k _; rfl
  | succ d ih =>
    intro k h
    rw [lkF, if_neg (fun q => h k (Nat.le_refl k) (by omega) q.1)]
    exact ih (k + 1) (fun j a b => h j (by omega) (by omega))
theorem lk_eq {xn mn : Nat → Int64} {nt : Nat → Nat} {rp K i : Nat} (hd : dst xn nt K) (hi : ∀ k, k < K → (xn (nt k) = xn i ↔ mn (nt k) = mn i)) : ∀ d k, k + d = K → lkF (fun k => xn (nt k)) rp (xn i) k d = lkM (fun k => mn (nt k)) rp (mn i) k d := by
  intro d
  induction d with
  | zero => intro k _; rfl
  | succ d ih =>
    intro k hk
    have e := hi k (by omega)
    rw [lkF, lkM]
    by_cases c : xn (nt k) = xn i
    · rw [if_pos (e.mp c)]
      by_cases b : rp.testBit k = true
      · rw [if_pos b, if_neg (fun q => by rw [b] at q; cases q.2)]
        apply lkF_none
        intro j a b' q
        have := hd j k (by omega) (by omega) (q.trans c.symm)
        omega
      · rw [if_neg b, if_pos ⟨c, by cases h : rp.testBit k with | false => rfl | true => exact absurd h b⟩]
    · rw [if_neg (fun q => c (e.mpr q)), if_neg (fun q => c q.1)]
      exact ih (k + 1) (by omega)
