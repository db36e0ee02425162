/-! ===== PURE: the order that the best queue makes ===== -/
def XB (a : AS) (σ : ST) : Prop := gI σ 10 = nI (cS a 1) ∧ gI σ 20 = nI (cS a 6) ∧ ∃ w, w < 128 ∧ gI σ 21 = nI w ∧ ∀ k, k < 7 → (w.testBit k = true ↔ ∃ h, h < 3 ∧ cN a 12 h = k + 1)
theorem XB_of {a : AS} {σ : ST} (hX : XR a σ) : XB a σ := ⟨hX.2.2.2.2.2.1.1, hX.2.2.2.2.2.2.1.2.2.1, hX.2.2.2.2.2.2.1.2.2.2.1⟩
theorem xWaitB {a : AS} {σ : ST} {k : Nat} (hX : XB a σ) (hB : wfBg 0 0 a) (hk : k < cS a 1) : fX1_isWaiting (nI k) σ = some (if waitB a k = true then 1 else 0, σ) := by
  have hK := hB.1.1
  have h6 : cS a 6 < 128 := Nat.lt_of_lt_of_le hB.2.1.2.2.2 (pow_le_128 hK)
  obtain ⟨w, hw, w1, w2⟩ := hX.2.2
  have hwb := way_bit (a := a) (show k < 7 by omega) w2
  unfold fX1_isWaiting waitB
  rw [xDone hX.2.1 (by omega) (by omega), Option.bind_some]
  simp only [pif]
  rw [xWay w1 (by omega) (by omega), Option.bind_some]
  simp only [pif, hwb]
  cases (cS a 6).testBit k <;> cases wayB a k <;> rfl
def idl (a : AS) : Nat → Nat → List Nat
  | _, 0 => []
  | f, d + 1 => if waitB a f = true then idl a (f + 1) d else f :: idl a (f + 1) d
theorem idl_eq (a : AS) : ∀ d f, idl a f d = (List.range' f d).filter (fun k => !waitB a k) := by
  intro d
  induction d with
  | zero => intro f; rfl
  | succ d ih =>
    intro f
    rw [idl, List.range'_succ]
    by_cases c : waitB a f = true
    · rw [if_pos c, List.filter_cons_of_neg (by rw [c]; decide), ih]
    · rw [if_neg c, List.filter_cons_of_pos (by simpa using c), ih]
theorem idl_sorted (a : AS) (d f : Nat) : (idl a f d).Pairwise (· ≤ ·) := by
  rw [idl_eq]
  refine List.Pairwise.filter _ ?_
  exact (List.pairwise_lt_range' (s := f) (n := d)).imp (fun h => Nat.le_of_lt h)
theorem idl_mem {a : AS} {d f k : Nat} (h : k ∈ idl a f d) : waitB a k = false ∧ k < f + d := by
  rw [idl_eq, List.mem_filter, List.mem_range'_1] at h
  exact ⟨by simpa using h.2, h.1.2⟩
theorem xIdleL {a : AS} {σ : ST} (hX : XB a σ) (hB : wfBg 0 0 a) : ∀ d f n, f + d = cS a 1 → d < n → (idl a f d = [] ∧ fX1_nextIdle_L2 n (nI f) σ = some (7, σ)) ∨ ∃ x d', x + 1 + d' = cS a 1 ∧ idl a f d = x :: idl a (x + 1) d' ∧ fX1_nextIdle_L2 n (nI f) σ = some (nI x, σ) := by
  have hK := hB.1.1
  intro d
  induction d with
  | zero =>
    intro f n hf hn
    obtain ⟨m, rfl⟩ : ∃ m, n = m + 1 := ⟨n - 1, by omega⟩
    left
    refine ⟨rfl, ?_⟩
    rw [fX1_nextIdle_L2, hX.1, if_pos (nI_le (by omega) (by omega))]
  | succ d ih =>
    intro f n hf hn
    obtain ⟨m, rfl⟩ : ∃ m, n = m + 1 := ⟨n - 1, by omega⟩
    rw [fX1_nextIdle_L2, hX.1, if_neg (nI_ge (by omega) (by omega)), xWaitB hX hB (by omega), Option.bind_some, idl]
    simp only [pif, lt_def, nI_1]
    by_cases c : waitB a f = true
    · rw [if_pos c, if_pos c]
      exact ih (f + 1) m (by omega) (by omega)
    · rw [if_neg c, if_neg c]
      right
      exact ⟨f, d, by omega, rfl, rfl⟩
theorem drop_cons {l : List Nat} {i : Nat} (h : i < l.length) : l.drop i = l.getD i 0 :: l.drop (i + 1) := by
  have e : l.getD i 0 = l[i] := by simp [h]
  rw [e, List.drop_eq_getElem_cons h]
theorem mrg_nil (i : List Nat) : mrg i [] = i := by cases i <;> rw [mrg]
theorem xOrdL {a : AS} {R b : List Nat} (hB : wfBg 0 0 a) (hRl : R.length = cS a 1) (hbl : b.length ≤ 7) (hb7 : ∀ i, i < b.length → b.getD i 0 < 7) : ∀ d m i J n σ, m + d = cS a 1 → d + 30 < n → XB a σ → gI σ 22 = nI b.length → (∀ q, q < b.length → gA σ 64 q = nI (b.getD q 0)) → R.drop m = mrg J (b.drop i) → i ≤ b.length → (J = [] ∨ ∃ x d', x + 1 + d' = cS a 1 ∧ J = x :: idl a (x + 1) d') →
    ∃ σ', fX1_orderByBest_L10 n (nI i) (match J with | [] => 7 | x :: _ => nI x) (nI m) σ = some σ' ∧ fr [] [54] [] σ σ' ∧ (∀ p, m ≤ p → p < cS a 1 → gA σ' 54 p = nI (R.getD p 0)) ∧ (∀ p, (p < m ∨ cS a 1 ≤ p) → gA σ' 54 p = gA σ 54 p) := by
  have hK := hB.1.1
  intro d
  induction d with
  | zero =>
    intro m i J n σ hm hn hX h22 h64 hR hi hJ
    obtain ⟨n', rfl⟩ : ∃ n', n = n' + 1 := ⟨n - 1, by omega⟩
    exact ⟨σ, by rw [fX1_orderByBest_L10, hX.1, if_pos (nI_le (by omega) (by omega))], fr_rf, fun p p1 p2 => by omega, fun _ _ => rfl⟩
  | succ d ih =>
    intro m i J n σ hm hn hX h22 h64 hR hi hJ
    obtain ⟨n', rfl⟩ : ∃ n', n = n' + 1 := ⟨n - 1, by omega⟩
    have hmR : m < R.length := by omega
    have hdR := drop_cons hmR
    have m7 : ix (nI m) 7 := ix_nI (by omega) (by decide)
    -- taking the idle step
    have tIdle : ∀ x d', x + 1 + d' = cS a 1 → J = x :: idl a (x + 1) d' → R.getD m 0 = x → R.drop (m + 1) = mrg (idl a (x + 1) d') (b.drop i) → ∃ σ', Option.bind (fX1_nextIdle n' (nI x + 1) (stA σ 54 (nI m) (nI x))) (fun q_12 => fX1_orderByBest_L10 n' (nI i) q_12.1 (nI m + 1) q_12.2) = some σ' ∧ fr [] [54] [] σ σ' ∧ (∀ p, m ≤ p → p < cS a 1 → gA σ' 54 p = nI (R.getD p 0)) ∧ (∀ p, (p < m ∨ cS a 1 ≤ p) → gA σ' 54 p = gA σ 54 p) := by
      intro x d' hx hJx hRm hRd
      rw [stA_nI σ 54 m _ (by omega), nI_1, nI_1]
      have f1 : fr [] [54] [] σ (sA σ 54 (upd (gA σ 54) m (nI x))) := fr_sA fr_rf (by decide)
      have hX1 : XB a (sA σ 54 (upd (gA σ 54) m (nI x))) := hX
      have hidle : fX1_nextIdle n' (nI (x + 1)) (sA σ 54 (upd (gA σ 54) m (nI x))) = fX1_nextIdle_L2 n' (nI (x + 1)) (sA σ 54 (upd (gA σ 54) m (nI x))) := rfl
      have fin : ∀ J', (J' = [] ∨ ∃ x d', x + 1 + d' = cS a 1 ∧ J' = x :: idl a (x + 1) d') → J' = idl a (x + 1) d' → ∃ σ', fX1_orderByBest_L10 n' (nI i) (match J' with | [] => 7 | x :: _ => nI x) (nI (m + 1)) (sA σ 54 (upd (gA σ 54) m (nI x))) = some σ' ∧ fr [] [54] [] σ σ' ∧ (∀ p, m ≤ p → p < cS a 1 → gA σ' 54 p = nI (R.getD p 0)) ∧ (∀ p, (p < m ∨ cS a 1 ≤ p) → gA σ' 54 p = gA σ 54 p) := by
        intro J' hJ' he
        obtain ⟨σ', r1, r2, r3, r4⟩ := ih (m + 1) i J' n' (sA σ 54 (upd (gA σ 54) m (nI x))) (by omega) (by omega) hX1 h22 h64 (by rw [he]; exact hRd) hi hJ'
        refine ⟨σ', r1, fr_tr f1 r2, fun p p1 p2 => ?_, fun p hp => ?_⟩
        · by_cases e : p = m
          · subst e
            rw [r4 p (by omega), hRm]
            show upd (gA σ 54) p (nI x) p = _
            rw [upd_at, if_pos rfl]
          · exact r3 p (by omega) p2
        · rw [r4 p (by omega)]
          show upd (gA σ 54) m (nI x) p = _
          rw [upd_at, if_neg (by omega)]
      rw [hidle]
      rcases xIdleL hX1 hB d' (x + 1) n' (by omega) (by omega) with ⟨e1, e2⟩ | ⟨y, d2, e1, e2, e3⟩
      · rw [e2, Option.bind_some]
        exact fin [] (Or.inl rfl) e1.symm
      · rw [e3, Option.bind_some]
        exact fin (y :: idl a (y + 1) d2) (Or.inr ⟨y, d2, e1, rfl⟩) e2.symm
    -- taking from the queue
    have tBest : i < b.length → R.getD m 0 = b.getD i 0 → R.drop (m + 1) = mrg J (b.drop (i + 1)) → ∃ σ', fX1_orderByBest_L10 n' (nI i + 1) (match J with | [] => 7 | x :: _ => nI x) (nI m + 1) (stA σ 54 (nI m) (nI (b.getD i 0))) = some σ' ∧ fr [] [54] [] σ σ' ∧ (∀ p, m ≤ p → p < cS a 1 → gA σ' 54 p = nI (R.getD p 0)) ∧ (∀ p, (p < m ∨ cS a 1 ≤ p) → gA σ' 54 p = gA σ 54 p) := by
      intro hib hRm hRd
      rw [stA_nI σ 54 m _ (by omega), nI_1, nI_1]
      have f1 : fr [] [54] [] σ (sA σ 54 (upd (gA σ 54) m (nI (b.getD i 0)))) := fr_sA fr_rf (by decide)
      obtain ⟨σ', r1, r2, r3, r4⟩ := ih (m + 1) (i + 1) J n' (sA σ 54 (upd (gA σ 54) m (nI (b.getD i 0)))) (by omega) (by omega) hX h22 h64 hRd (by omega) hJ
      refine ⟨σ', r1, fr_tr f1 r2, fun p p1 p2 => ?_, fun p hp => ?_⟩
      · by_cases e : p = m
        · subst e
          rw [r4 p (by omega), hRm]
          show upd (gA σ 54) p (nI (b.getD i 0)) p = _
          rw [upd_at, if_pos rfl]
        · exact r3 p (by omega) p2
      · rw [r4 p (by omega)]
        show upd (gA σ 54) m (nI (b.getD i 0)) p = _
        rw [upd_at, if_neg (by omega)]
    rw [fX1_orderByBest_L10, hX.1, if_neg (nI_ge (by omega) (by omega)), h22]
    simp only [lt_def, if_pos m7]
    rw [hdR] at hR
    rcases Nat.lt_or_ge i b.length with hib | hib
    · have i7 : ix (nI i) 7 := ix_nI (by omega) (by decide)
      have hv := hb7 i hib
      rw [if_neg (nI_ge hib (by omega)), if_pos i7, if_pos i7, ldA_nI _ 64 i (by omega), h64 i hib]
      rw [drop_cons hib] at hR
      rcases hJ with rfl | ⟨x, d', hx, rfl⟩
      · rw [mrg] at hR
        have h1 := (List.cons.inj hR).1
        have h2 := (List.cons.inj hR).2
        rw [if_pos (show nI (b.getD i 0) ≤ (7 : Int32) from by rw [show (7 : Int32) = nI 7 from rfl]; exact nI_le (by omega) (by decide))]
        exact tBest hib h1 (by rw [h2, mrg])
      · rw [mrg] at hR
        show ∃ σ', (if nI (b.getD i 0) ≤ nI x then _ else _) = some σ' ∧ _
        by_cases c : x < b.getD i 0
        · rw [if_pos c] at hR
          rw [if_neg (nI_ge c (by omega))]
          exact tIdle x d' hx rfl (List.cons.inj hR).1 (by rw [(List.cons.inj hR).2, ← drop_cons hib])
        · rw [if_neg c] at hR
          rw [if_pos (nI_le (by omega) (by omega))]
          exact tBest hib (List.cons.inj hR).1 (List.cons.inj hR).2
    · rw [if_pos (nI_le (by omega) (by omega))]
      rw [List.drop_of_length_le hib] at hR
      rcases hJ with rfl | ⟨x, d', hx, rfl⟩
      · rw [mrg] at hR; cases hR
      · rw [mrg] at hR
        exact tIdle x d' hx rfl (List.cons.inj hR).1 (by rw [(List.cons.inj hR).2, List.drop_of_length_le hib, mrg_nil])
theorem xOrder {a : AS} {b : List Nat} {n : Nat} {σ : ST} (hn : 200 ≤ n) (hB : wfBg 0 0 a) (hX : XR a σ) (hL : QL a b) (h22 : gI σ 22 = nI b.length) (h64 : ∀ q, q < b.length → gA σ 64 q = nI (b.getD q 0)) (hRl : (mrg (idl a 0 (cS a 1)) b).length = cS a 1) : ∃ σ', fX1_orderByBest n σ = some σ' ∧ fr [] [54] [] σ σ' ∧ (∀ p, p < cS a 1 → gA σ' 54 p = nI ((mrg (idl a 0 (cS a 1)) b).getD p 0)) ∧ (∀ p, cS a 1 ≤ p → gA σ' 54 p = gA σ 54 p) := by
  have hK := hB.1.1
  have hXB := XB_of hX
  have hl7 := q_len7 hL hK
  have fin : ∀ J, (J = [] ∨ ∃ x d', x + 1 + d' = cS a 1 ∧ J = x :: idl a (x + 1) d') → J = idl a 0 (cS a 1) → ∃ σ', fX1_orderByBest_L10 n (nI 0) (match J with | [] => 7 | x :: _ => nI x) (nI 0) σ = some σ' ∧ fr [] [54] [] σ σ' ∧ (∀ p, p < cS a 1 → gA σ' 54 p = nI ((mrg (idl a 0 (cS a 1)) b).getD p 0)) ∧ (∀ p, cS a 1 ≤ p → gA σ' 54 p = gA σ 54 p) := by
    intro J hJ he
    obtain ⟨σ', r1, r2, r3, r4⟩ := xOrdL (R := mrg (idl a 0 (cS a 1)) b) (b := b) hB hRl hl7 (fun i hi => by have := q_in hL _ (getD_mem hi); omega) (cS a 1) 0 0 J n σ (by omega) (by omega) hXB h22 h64 (by rw [List.drop_zero, List.drop_zero, he]) (Nat.zero_le _) hJ
    exact ⟨σ', r1, r2, fun p hp => r3 p (Nat.zero_le _) hp, fun p hp => r4 p (Or.inr hp)⟩
  unfold fX1_orderByBest
  rw [lt_def, show fX1_nextIdle n 0 σ = fX1_nextIdle_L2 n (nI 0) σ from rfl]
  rcases xIdleL hXB hB (cS a 1) 0 n (by omega) (by omega) with ⟨e1, e2⟩ | ⟨y, d2, e1, e2, e3⟩
  · rw [e2, Option.bind_some]
    exact fin [] (Or.inl rfl) e1.symm
  · rw [e3, Option.bind_some]
    exact fin (y :: idl a (y + 1) d2) (Or.inr ⟨y, d2, e1, rfl⟩) e2.symm
