/-! ===== PURE: read: a STEP, the class ===== -/
def oA (op : Nat) (al : Nat → Nat) (ot : Nat) : Nat → Nat
  | 0 => ot
  | k + 1 => if op.testBit k = true then oA op al ot k ||| al k else oA op al ot k
theorem oA_bit {op : Nat} {al : Nat → Nat} {ot x : Nat} : ∀ k, (oA op al ot k).testBit x = true ↔ (ot.testBit x = true ∨ ∃ j, j < k ∧ op.testBit j = true ∧ (al j).testBit x = true) := by
  intro k
  induction k with
  | zero => exact ⟨fun h => Or.inl h, fun h => h.elim id (fun ⟨j, hj, _⟩ => absurd hj (Nat.not_lt_zero j))⟩
  | succ k ih =>
    rw [oA]
    by_cases c : op.testBit k = true
    · rw [if_pos c, Nat.testBit_or, Bool.or_eq_true, ih]
      constructor
      · rintro ((a | ⟨j, j1, j2⟩) | a)
        · exact Or.inl a
        · exact Or.inr ⟨j, by omega, j2⟩
        · exact Or.inr ⟨k, by omega, c, a⟩
      · rintro (a | ⟨j, j1, j2, j3⟩)
        · exact Or.inl (Or.inl a)
        · rcases Nat.lt_or_ge j k with z | z
          · exact Or.inl (Or.inr ⟨j, z, j2, j3⟩)
          · have : j = k := by omega
            subst this; exact Or.inr j3
    · rw [if_neg c, ih]
      constructor
      · rintro (a | ⟨j, j1, j2⟩)
        · exact Or.inl a
        · exact Or.inr ⟨j, by omega, j2⟩
      · rintro (a | ⟨j, j1, j2, j3⟩)
        · exact Or.inl a
        · rcases Nat.lt_or_ge j k with z | z
          · exact Or.inr ⟨j, z, j2, j3⟩
          · have : j = k := by omega
            subst this; exact absurd j2 c
def dst (xn : Nat → Int64) (nt : Nat → Nat) (K : Nat) : Prop := ∀ i j, i < K → j < K → xn (nt i) = xn (nt j) → i = j
def XBt (tk tv pl : Nat → Nat) (xn : Nat → Int64) (L : Nat) (nt : Nat → Nat) (rp K : Nat) (D : Nat → Nat → Nat) (s : PS) (σ : ST) : Prop :=
  XTk tk tv pl xn L σ ∧ NMx (fun k => xn (nt k)) rp K σ ∧ (s.2.2.2.2.1 < 9 ∧ s.2.1.length ≤ s.1) ∧
  gI σ 2 = 0 ∧ gI σ 4 = nI s.1 ∧ s.1 ≤ L ∧ gI σ 5 = nI s.2.2.2.2.1 ∧ (gI σ 6 = if s.2.2.2.2.1 = 0 then -1 else nI (pl s.2.2.2.2.2)) ∧ gI σ 7 = nI K ∧
  ∃ c, c ≤ 400 ∧ gI σ 9 = nI c ∧ (s.2.2.2.2.1 = 0 → dst xn nt K ∧ c = s.2.1.length ∧ (∀ j, j < c → gA σ 17 j = xopOf (s.2.1.getD j (0, 0)).1 ∧ gA σ 18 j = nI (s.2.1.getD j (0, 0)).2) ∧
    (∀ k, k < K → gA σ 13 k = nI (D 3 k) ∧ gA σ 14 k = nI (D 4 k) ∧ gA σ 15 k = nI (D 5 k)) ∧ ∀ k, k < K → gA σ 10 k = nI (D 0 k) ∧ gA σ 11 k = nI (D 1 k) ∧ gA σ 12 k = nI (D 2 k) ∧ gA σ 16 k = nI (D 21 k))
def st0 (s : PS) : PS := (s.1, s.2.1, 0, 0, s.2.2.2.2)
def rpN (rp K : Nat) (rep : Bool) : Nat := if rep = true then rp ||| 2 ^ K else rp
/-- the rows behind a step -/
def nD (D : Nat → Nat → Nat) (tv : Nat → Nat) (K t : Nat) (rep : Bool) (s : PS) : Nat → Nat → Nat := fun j k => if k = K then (if j = 0 then tv (t + 3) else if j = 1 then (if rep = true then tv (t + 5) else 0) else if j = 2 then (if rep = true then tv (t + 7) else 0) else if j = 3 then s.2.2.1 else if j = 4 then s.2.2.2.1 else if j = 5 then oA s.2.2.2.1 (D 5) s.2.2.1 K else s.2.1.length) else D j k
def aStep (tk tv lk : Nat → Nat) (tw : Nat → Bool) (f : Nat) (s : PS) : Option Res := bO (some (bS (bS (aAcc tk (tk s.1) (st0 s)) (aNm tk tw)) (aTl tk tv (decide (tk s.1 = 22))))) (fun s9 => bO (ev tk tv lk f 3 0 s9) (fun s10 => some (aAcc tk 6 s10)))
theorem shl0 : ∀ k : Fin 7, (0 : Int32) <<< (nI k.1 &&& 31) = 0 := by decide
theorem xBgS {tk tv pl : Nat → Nat} {xn : Nat → Int64} {L : Nat} {nt : Nat → Nat} {rp K : Nat} {D : Nat → Nat → Nat} {s : PS} {σ : ST} (rep : Bool) (hK : K < 7) (h : XBt tk tv pl xn L nt rp K D s σ) : ∃ σ', fX4_beginStep (if rep = true then 1 else 0) σ = some σ' ∧ fr [8] [11, 12, 13, 14, 15] [] σ σ' ∧ XS (dst xn nt K) pl K (D 5) (D 3) (D 4) L (st0 s) σ' ∧ NMx (fun k => xn (nt k)) (rpN rp K rep) K σ' ∧ (gA σ' 11 K = 0 ∧ gA σ' 12 K = 0) ∧ ∀ j, j ≠ K → gA σ' 11 j = gA σ 11 j ∧ gA σ' 12 j = gA σ 12 j := by
  obtain ⟨hX, ⟨n1, n2, n3⟩, -, h1, h2, h3, h4, h5, h6, c, c1, c2, c3⟩ := h
  have i7 : ix (nI K) 7 := ix_nI hK (by decide)
  have hv : gI σ 8 ||| ((if rep = true then 1 else 0) <<< (gI σ 7 &&& 31)) = nI (rpN rp K rep) := by
    rw [n2, h6]
    cases rep with
    | true => show nI rp ||| ((1 : Int32) <<< (nI K &&& 31)) = nI (rp ||| 2 ^ K); rw [nI_shl1 (by omega), nI_or]
    | false => show nI rp ||| ((0 : Int32) <<< (nI K &&& 31)) = nI rp; rw [shl0 ⟨K, hK⟩]; show nI rp ||| nI 0 = nI rp; rw [nI_or, Nat.or_zero]
  have step : fX4_beginStep (if rep = true then 1 else 0) σ = some (sA (sA (sA (sA (sA (sI σ 8 (nI (rpN rp K rep))) 11 (upd (gA σ 11) K 0)) 12 (upd (gA σ 12) K 0)) 13 (upd (gA σ 13) K 0)) 14 (upd (gA σ 14) K 0)) 15 (upd (gA σ 15) K 0)) := by
    rw [← hv]
    unfold fX4_beginStep
    rw [h6, if_neg (show ¬ (7 : Int32) ≤ nI K from nI_ge hK (by decide))]
    have gen : ∀ v : Int32, (lt (sI σ 8 (gI σ 8 ||| (v <<< ((gI σ 7) &&& 31)))) (fun σ_5 => (if ix (gI σ_5 7) 7 then (lt (stA σ_5 11 (gI σ_5 7) ((0 : Int32))) (fun σ_7 => (if ix (gI σ_7 7) 7 then (lt (stA σ_7 12 (gI σ_7 7) ((0 : Int32))) (fun σ_9 => (if ix (gI σ_9 7) 7 then (lt (stA σ_9 13 (gI σ_9 7) ((0 : Int32))) (fun σ_11 => (if ix (gI σ_11 7) 7 then (lt (stA σ_11 14 (gI σ_11 7) ((0 : Int32))) (fun σ_13 => (if ix (gI σ_13 7) 7 then (lt (stA σ_13 15 (gI σ_13 7) ((0 : Int32))) (fun σ_15 => (some σ_15))) else none))) else none))) else none))) else none))) else none))) = some (sA (sA (sA (sA (sA (sI σ 8 (gI σ 8 ||| (v <<< ((gI σ 7) &&& 31)))) 11 (upd (gA σ 11) K 0)) 12 (upd (gA σ 12) K 0)) 13 (upd (gA σ 13) K 0)) 14 (upd (gA σ 14) K 0)) 15 (upd (gA σ 15) K 0)) := by
      intro v
      rw [lt_def, gI_sI, if_neg (show ¬ (7 = 8) by decide), h6, if_pos i7, stA_nI _ 11 K _ (by omega), lt_def, gI_sA, gI_sI, if_neg (show ¬ (7 = 8) by decide), h6, if_pos i7, stA_nI _ 12 K _ (by omega), lt_def, gI_sA, gI_sA, gI_sI, if_neg (show ¬ (7 = 8) by decide), h6, if_pos i7, stA_nI _ 13 K _ (by omega), lt_def, gI_sA, gI_sA, gI_sA, gI_sI, if_neg (show ¬ (7 = 8) by decide), h6, if_pos i7, stA_nI _ 14 K _ (by omega), lt_def, gI_sA, gI_sA, gI_sA, gI_sA, gI_sI, if_neg (show ¬ (7 = 8) by decide), h6, if_pos i7, stA_nI _ 15 K _ (by omega), lt_def]
      rfl
    rw [← h6]
    cases rep with
    | true =>
      rw [lt_def, if_neg (show ¬ (if (true : Bool) = true then (1 : Int32) else 0) = 0 from one_ne)]; exact gen 1
    | false =>
      rw [lt_def, if_pos (show (if (false : Bool) = true then (1 : Int32) else 0) = 0 from rfl)]; exact gen 0
  refine ⟨_, step, fr_sA (fr_sA (fr_sA (fr_sA (fr_sA (fr_sI fr_rf (by decide)) (by decide)) (by decide)) (by decide)) (by decide)) (by decide), ?_, ?_, ?_, ?_⟩
  · refine ⟨h1, h2, h3, h4, h5, h6, c, c1, c2, fun z => ?_⟩
    obtain ⟨d0, d1, d2, d3, d4⟩ := c3 z
    refine ⟨d0, d1, d2, ?_, ?_, ⟨0, ?_, by decide, fun x => ?_⟩, fun k hk => ?_⟩
    · show upd (gA σ 13) K 0 K = _; rw [upd_at, if_pos rfl]; rfl
    · show upd (gA σ 14) K 0 K = _; rw [upd_at, if_pos rfl]; rfl
    · show upd (gA σ 15) K 0 K = _; rw [upd_at, if_pos rfl]; rfl
    · show (0 : Nat).testBit x = true ↔ ((0 : Nat).testBit x = true ∨ ∃ j, (0 : Nat).testBit j = true ∧ _)
      rw [Nat.zero_testBit]
      constructor
      · intro q; cases q
      · rintro (q | ⟨j, q, -⟩)
        · cases q
        · rw [Nat.zero_testBit] at q; cases q
    · show upd (gA σ 13) K 0 k = _ ∧ upd (gA σ 14) K 0 k = _ ∧ upd (gA σ 15) K 0 k = _
      rw [upd_at, upd_at, upd_at, if_neg (by omega), if_neg (by omega), if_neg (by omega)]; exact d3 k hk
  · refine ⟨n1, rfl, ?_⟩
    unfold rpN; split
    · exact or_lt (n := 7) n3 (Nat.pow_lt_pow_right (by decide) hK)
    · exact n3
  · constructor
    · show upd (gA σ 11) K 0 K = 0; rw [upd_at, if_pos rfl]
    · show upd (gA σ 12) K 0 K = 0; rw [upd_at, if_pos rfl]
  · intro j hj
    show upd (gA σ 11) K 0 j = _ ∧ upd (gA σ 12) K 0 j = _
    rw [upd_at, upd_at, if_neg hj, if_neg hj]; exact ⟨rfl, rfl⟩
def XEnd (tk tv pl : Nat → Nat) (xn : Nat → Int64) (L : Nat) (nt : Nat → Nat) (rp K : Nat) (D : Nat → Nat → Nat) (t : Nat) (rep : Bool) (r : Res) (σ : ST) : Prop :=
  match r with
  | .inl e => gI σ 2 = nI e.1 ∧ (e.1 = 1 ∨ e.1 = 2) ∧ gI σ 3 = nI (pl e.2)
  | .inr s => XBt tk tv pl xn L (uN nt K (t + 1)) (rpN rp K rep) (K + 1) (nD D tv K t rep s) s σ
theorem aNm_ok {tk : Nat → Nat} {tw : Nat → Bool} {s s' : PS} (h : aNm tk tw s = .inr s') : kp s s' ∧ s'.1 = s.1 + 1 ∧ tk s.1 = 1 ∧ (s'.2.2.2.2.1 = 0 → tw s.1 = false) ∧ (s.2.2.2.2.1 < 9 → s'.2.2.2.2.1 < 9) := by
  unfold aNm at h
  by_cases c : tk s.1 = 1 ∧ tw s.1 = true
  · rw [if_pos c] at h
    obtain ⟨a, b, -⟩ := kp_acc h
    rw [aNote_t] at b
    have e := (aAcc_ok h).2.2
    refine ⟨kp_tr (kp_note 3 s) a, b, c.1, fun z => ?_, fun z => ?_⟩
    · exfalso
      rw [e] at z
      have z' : (aNote 3 s).2.2.2.2.1 = 0 := z
      unfold aNote at z'
      split at z'
      · have : 3 = 0 := z'
        omega
      · exact absurd z' (by assumption)
    · rw [e]
      show (aNote 3 s).2.2.2.2.1 < 9
      unfold aNote; split
      · show 3 < 9; omega
      · exact z
  · rw [if_neg c] at h
    obtain ⟨a, b, d⟩ := kp_acc h
    have e := (aAcc_ok h).2.2
    refine ⟨a, b, d, fun _ => ?_, fun z => by rw [e]; exact z⟩
    cases q : tw s.1 with
    | false => rfl
    | true => exact absurd ⟨d, q⟩ c
theorem kp_tl {tk tv : Nat → Nat} {rep : Bool} {s s' : PS} (h : aTl tk tv rep s = .inr s') : kp s s' ∧ s.1 < s'.1 ∧ (s.2.2.2.2.1 < 9 → s'.2.2.2.2.1 < 9) := by
  have acc : ∀ {k : Nat} {a b : PS}, aAcc tk k a = .inr b → kp a b ∧ a.1 < b.1 ∧ (a.2.2.2.2.1 < 9 → b.2.2.2.2.1 < 9) := fun {k a b} h => by
    have e := (aAcc_ok h).2.2
    exact ⟨(kp_acc h).1, by rw [(kp_acc h).2.1]; omega, fun z => by rw [e]; exact z⟩
  have int : ∀ {lo hi : Nat} {a b : PS}, aInt tk tv lo hi a = .inr b → kp a b ∧ a.1 < b.1 ∧ (a.2.2.2.2.1 < 9 → b.2.2.2.2.1 < 9) := fun {lo hi a b} h => by
    obtain ⟨-, -, i3, s0, h0, h1⟩ := aInt_ok h
    refine ⟨(kp_int h).1, by omega, fun z => ?_⟩
    rw [h1]
    rcases h0 with rfl | rfl
    · exact z
    · show (aNote 5 a).2.2.2.2.1 < 9
      unfold aNote; split
      · show 5 < 9; omega
      · exact z
  obtain ⟨s3, y3, y4⟩ := bS_ok h
  obtain ⟨s4, y5, y6⟩ := bS_ok y4
  obtain ⟨s8, y7, y8⟩ := bS_ok y6
  have a3 := acc y3
  have a4 := int y5
  have a9 := acc y8
  have a8 : kp s4 s8 ∧ s4.1 ≤ s8.1 ∧ (s4.2.2.2.2.1 < 9 → s8.2.2.2.2.1 < 9) := by
    cases rep with
    | false =>
      have y7' : (Sum.inr s4 : Res) = .inr s8 := y7
      obtain rfl := Sum.inr.inj y7'
      exact ⟨⟨rfl, rfl, rfl, Nat.le_refl _, fun z => z⟩, Nat.le_refl _, fun z => z⟩
    | true =>
      have y7' : bS (aAcc tk 23 s4) (fun s5 => bS (aInt tk tv 0 399 s5) (fun s6 => bS (aAcc tk 24 s6) (aInt tk tv 0 100))) = .inr s8 := y7
      obtain ⟨s5, z1, z2⟩ := bS_ok y7'
      obtain ⟨s6, z3, z4⟩ := bS_ok z2
      obtain ⟨s7, z5, z6⟩ := bS_ok z4
      have b1 := acc z1
      have b2 := int z3
      have b3 := acc z5
      have b4 := int z6
      exact ⟨kp_tr b1.1 (kp_tr b2.1 (kp_tr b3.1 b4.1)), by omega, fun z => b4.2.2 (b3.2.2 (b2.2.2 (b1.2.2 z)))⟩
  exact ⟨kp_tr a3.1 (kp_tr a4.1 (kp_tr a8.1 a9.1)), by omega, fun z => a9.2.2 (a8.2.2 (a4.2.2 (a3.2.2 z)))⟩
