/-! ===== PURE: the class runs ahead: queue, start, small steps ===== -/
def XQ (l : List Nat) (σ : ST) : Prop := gI σ 22 = nI l.length ∧ ∀ i, i < l.length → gA σ 63 i = nI (l.getD i 0)
def XO (a : AS) (σ : ST) : Prop := (∀ k, k < cS a 1 → gA σ 59 k = nI (opA a k) ∧ gA σ 60 k = nI (soE a k)) ∧ gI σ 25 = nI (floA a)
def XT (a : AS) (s : RS) (d : Nat) (σ : ST) : Prop := (∀ k, k < cS a 1 → gA σ 61 k = nI (s.1 k)) ∧ (∀ h, h < 3 → gA σ 62 h = nI (s.2.1 h)) ∧ gI σ 23 = nI s.2.2 ∧ gI σ 26 = nI (cstS a s) ∧ gI σ 27 = nI d
def EN (a : AS) (t : Nat) (s : RS) (σ : ST) : Prop := ∃ e, gI σ 24 = nI e ∧ e < 128 ∧ ∀ j, j < cS a 1 → (e.testBit j = true ↔ s.1 j < t)
theorem XQ_fr {I A B : List Nat} {l : List Nat} {σ σ' : ST} (f : fr I A B σ σ') (h : XQ l σ) (hi : 22 ∉ I) (ha : 63 ∉ A) : XQ l σ' := by
  unfold XQ at *
  rw [f.1 22 hi, f.2.1 63 ha]; exact h
theorem XO_fr {I A B : List Nat} {a : AS} {σ σ' : ST} (f : fr I A B σ σ') (h : XO a σ) (hi : 25 ∉ I) (ha : 59 ∉ A) (hb : 60 ∉ A) : XO a σ' := by
  unfold XO at *
  rw [f.1 25 hi, f.2.1 59 ha, f.2.1 60 hb]; exact h
theorem XT_fr {I A B : List Nat} {a : AS} {s : RS} {d : Nat} {σ σ' : ST} (f : fr I A B σ σ') (h : XT a s d σ) (hi : 23 ∉ I ∧ 26 ∉ I ∧ 27 ∉ I) (ha : 61 ∉ A ∧ 62 ∉ A) : XT a s d σ' := by
  unfold XT at *
  rw [f.1 23 hi.1, f.1 26 hi.2.1, f.1 27 hi.2.2, f.2.1 61 ha.1, f.2.1 62 ha.2]; exact h
/-- queues -/
def QL (a : AS) (l : List Nat) : Prop := l.Perm (qByN a)
theorem q_mem {a : AS} {l : List Nat} (h : QL a l) {k : Nat} : k ∈ l ↔ k < cS a 1 ∧ waitB a k = true := by
  rw [h.mem_iff]
  unfold qByN
  rw [List.mem_filter, List.mem_range]
theorem q_in {a : AS} {l : List Nat} (h : QL a l) : inK a l := fun k hk => ((q_mem h).mp hk).1
theorem q_cov {a : AS} {l : List Nat} (h : QL a l) : covers a l := fun k h1 h2 => (q_mem h).mpr ⟨h1, h2⟩
theorem q_nd {a : AS} {l : List Nat} (h : QL a l) : l.Nodup := h.nodup_iff.mpr (List.Pairwise.filter _ List.nodup_range)
theorem q_len {a : AS} {l : List Nat} (h : QL a l) : l.length = (qByN a).length := h.length_eq
theorem q_len7 {a : AS} {l : List Nat} (h : QL a l) (hK : cS a 1 ≤ 7) : l.length ≤ 7 := by
  rw [q_len h]
  have : (qByN a).length ≤ (List.range (cS a 1)).length := List.length_filter_le _ _
  rw [List.length_range] at this
  omega
theorem getD_mem {l : List Nat} {i : Nat} (h : i < l.length) : l.getD i 0 ∈ l := by
  have : l.getD i 0 = l[i] := by simp [h]
  rw [this]; exact List.getElem_mem h
theorem xWaiting {a : AS} {σ : ST} {k : Nat} (hX : XR a σ) (hB : wfBg 0 0 a) (hk : k < cS a 1) : fX1_isWaiting (nI k) σ = some (if waitB a k = true then 1 else 0, σ) := by
  have hK := hB.1.1
  have h6 : cS a 6 < 128 := Nat.lt_of_lt_of_le hB.2.1.2.2.2 (pow_le_128 hK)
  obtain ⟨w, hw, w1, w2⟩ := hX.2.2.2.2.2.2.1.2.2.2.1
  have hwb := way_bit (a := a) (show k < 7 by omega) w2
  unfold fX1_isWaiting waitB
  rw [xDone hX.2.2.2.2.2.2.1.2.2.1 (by omega) (by omega), Option.bind_some]
  simp only [pif]
  rw [xWay w1 (by omega) (by omega), Option.bind_some]
  simp only [pif, hwb]
  cases (cS a 6).testBit k <;> cases wayB a k <;> rfl
theorem getD_app {l : List Nat} {k i : Nat} : (l ++ [k]).getD i 0 = if i < l.length then l.getD i 0 else if i = l.length then k else 0 := by
  by_cases c : i < l.length
  · rw [if_pos c]; simp [List.getElem?_append, c]
  · rw [if_neg c]
    by_cases e : i = l.length
    · rw [if_pos e, e]; simp
    · rw [if_neg e]
      have : (l ++ [k]).length ≤ i := by simp; omega
      simp [List.getElem?_eq_none this]
theorem xEnq {a : AS} {σ : ST} {k : Nat} {l : List Nat} (hX : XR a σ) (hB : wfBg 0 0 a) (hk : k < cS a 1) (hQ : XQ l σ) (hl : l.length < 7) : ∃ σ', fX1_enqueue (nI k) σ = some σ' ∧ fr [22] [63] [] σ σ' ∧ XQ (if waitB a k = true then l ++ [k] else l) σ' := by
  have hK := hB.1.1
  unfold fX1_enqueue
  rw [xStep_yes hX.2.2.2.2.2.1.1 hK hk, Option.bind_some]
  simp only [if_neg one_ne]
  rw [xWaiting hX hB hk, Option.bind_some]
  simp only [pif, lt_def]
  by_cases c : waitB a k = true
  · have hif : (if waitB a k = true then l ++ [k] else l) = l ++ [k] := if_pos c
    rw [hif, if_pos c, hQ.1, if_neg (show ¬ (7 : Int32) ≤ nI l.length from nI_ge hl (by decide)), if_pos (ix_nI hl (by decide)), stA_nI σ 63 l.length _ (by omega), gI_sA, hQ.1, nI_1]
    refine ⟨_, rfl, fr_sI (fr_sA fr_rf (by decide)) (by decide), ?_, fun i hi => ?_⟩
    · show nI (l.length + 1) = _
      rw [List.length_append]; rfl
    · show upd (gA σ 63) l.length (nI k) i = _
      rw [List.length_append, List.length_singleton] at hi
      rw [upd_at, getD_app]
      by_cases e : i = l.length
      · rw [if_pos e, if_neg (by omega), if_pos e]
      · rw [if_neg e, if_pos (by omega)]; exact hQ.2 i (by omega)
  · have hif : (if waitB a k = true then l ++ [k] else l) = l := if_neg c
    rw [hif, if_neg c]
    exact ⟨σ, rfl, fr_rf, hQ⟩
theorem xFillL {a : AS} (hB : wfBg 0 0 a) : ∀ d i n σ, i + d = cS a 1 → d < n → XR a σ → XQ (((List.range i).map (cN a 13)).filter (waitB a)) σ → ∃ σ', fX1_fillQueue_L7 n (nI i) σ = some σ' ∧ fr [22] [63] [] σ σ' ∧ XQ (((List.range (cS a 1)).map (cN a 13)).filter (waitB a)) σ' := by
  have hK := hB.1.1
  intro d
  induction d with
  | zero =>
    intro i n σ hi hn hX hQ
    obtain ⟨m, rfl⟩ : ∃ m, n = m + 1 := ⟨n - 1, by omega⟩
    have : i = cS a 1 := by omega
    subst this
    exact ⟨σ, by rw [fX1_fillQueue_L7, hX.2.2.2.2.2.1.1, if_pos (nI_le (Nat.le_refl _) (by omega))], fr_rf, hQ⟩
  | succ d ih =>
    intro i n σ hi hn hX hQ
    obtain ⟨m, rfl⟩ : ∃ m, n = m + 1 := ⟨n - 1, by omega⟩
    have hlen : (((List.range i).map (cN a 13)).filter (waitB a)).length ≤ i := by
      refine Nat.le_trans (List.length_filter_le _ _) ?_
      rw [List.length_map, List.length_range]; exact Nat.le_refl _
    have ho := hB.2.2.2.2.2.2.2.2.1 i (by omega)
    have e54 := hX.2.2.2.2.2.2.1.2.2.2.2.2.1 i (by omega)
    obtain ⟨σ1, r1, r2, r3⟩ := xEnq (k := cN a 13 i) hX hB ho hQ (by omega)
    rw [fX1_fillQueue_L7, hX.2.2.2.2.2.1.1, if_neg (nI_ge (by omega) (by omega)), if_pos (ix_nI (show i < 7 by omega) (by decide)), ldA_nI _ 54 i (by omega), e54, r1, Option.bind_some, lt_def, nI_1]
    have hl' : ((List.range (i + 1)).map (cN a 13)).filter (waitB a) = if waitB a (cN a 13 i) = true then ((List.range i).map (cN a 13)).filter (waitB a) ++ [cN a 13 i] else ((List.range i).map (cN a 13)).filter (waitB a) := by
      rw [List.range_succ, List.map_append, List.filter_append]
      by_cases c : waitB a (cN a 13 i) = true
      · rw [if_pos c, List.map_singleton, List.filter_cons_of_pos c]; rfl
      · rw [if_neg c, List.map_singleton, List.filter_cons_of_neg c, List.filter_nil, List.append_nil]
    obtain ⟨σ', s1, s2, s3⟩ := ih (i + 1) m σ1 (by omega) (by omega) (XR_fo (fr_up r2 (by decide) (by decide) (by decide)) hX) (by rw [hl']; exact r3)
    exact ⟨σ', s1, fr_tr r2 s2, s3⟩
theorem xQbNL {a : AS} (hB : wfBg 0 0 a) : ∀ d i n σ, i + d = cS a 1 → d < n → XR a σ → XQ ((List.range i).filter (waitB a)) σ → ∃ σ', fX1_queueByNumbers_L7 n (nI i) σ = some σ' ∧ fr [22] [63] [] σ σ' ∧ XQ (qByN a) σ' := by
  have hK := hB.1.1
  intro d
  induction d with
  | zero =>
    intro i n σ hi hn hX hQ
    obtain ⟨m, rfl⟩ : ∃ m, n = m + 1 := ⟨n - 1, by omega⟩
    have : i = cS a 1 := by omega
    subst this
    exact ⟨σ, by rw [fX1_queueByNumbers_L7, hX.2.2.2.2.2.1.1, if_pos (nI_le (Nat.le_refl _) (by omega))], fr_rf, hQ⟩
  | succ d ih =>
    intro i n σ hi hn hX hQ
    obtain ⟨m, rfl⟩ : ∃ m, n = m + 1 := ⟨n - 1, by omega⟩
    have hlen : ((List.range i).filter (waitB a)).length ≤ i := by
      refine Nat.le_trans (List.length_filter_le _ _) ?_
      rw [List.length_range]; exact Nat.le_refl _
    obtain ⟨σ1, r1, r2, r3⟩ := xEnq (k := i) hX hB (by omega) hQ (by omega)
    rw [fX1_queueByNumbers_L7, hX.2.2.2.2.2.1.1, if_neg (nI_ge (by omega) (by omega)), r1, Option.bind_some, lt_def, nI_1]
    have hl' : (List.range (i + 1)).filter (waitB a) = if waitB a i = true then (List.range i).filter (waitB a) ++ [i] else (List.range i).filter (waitB a) := by
      rw [List.range_succ, List.filter_append]
      by_cases c : waitB a i = true
      · rw [if_pos c, List.filter_cons_of_pos c]; rfl
      · rw [if_neg c, List.filter_cons_of_neg c, List.filter_nil, List.append_nil]
    obtain ⟨σ', s1, s2, s3⟩ := ih (i + 1) m σ1 (by omega) (by omega) (XR_fo (fr_up r2 (by decide) (by decide) (by decide)) hX) (by rw [hl']; exact r3)
    exact ⟨σ', s1, fr_tr r2 s2, s3⟩
theorem xStart1 {a : AS} (hB : wfBg 0 0 a) (k63 : ST → Option ST) : ∀ d k n σ, k + d = cS a 1 → d < n → XR a σ → XO a σ → (∀ j, j < k → gA σ 61 j = nI ((sta a).1 j)) → ∃ σ', fX1_startRun_L20 k63 n (nI k) σ = k63 σ' ∧ fr [] [61] [] σ σ' ∧ ∀ j, j < cS a 1 → gA σ' 61 j = nI ((sta a).1 j) := by
  have hK := hB.1.1
  intro d
  induction d with
  | zero =>
    intro k n σ hk hn hX hO h
    obtain ⟨m, rfl⟩ : ∃ m, n = m + 1 := ⟨n - 1, by omega⟩
    have : k = cS a 1 := by omega
    subst this
    exact ⟨σ, by rw [fX1_startRun_L20, hX.2.2.2.2.2.1.1, if_pos (nI_le (Nat.le_refl _) (by omega))], fr_rf, h⟩
  | succ d ih =>
    intro k n σ hk hn hX hO h
    obtain ⟨m, rfl⟩ : ∃ m, n = m + 1 := ⟨n - 1, by omega⟩
    have hkK : k < cS a 1 := by omega
    have i7 : ix (nI k) 7 := ix_nI (by omega) (by decide)
    have key : ∀ v, v = (sta a).1 k → ∃ σ', fX1_startRun_L20 k63 m (nI k + 1) (stA σ 61 (nI k) (nI v)) = k63 σ' ∧ fr [] [61] [] σ σ' ∧ ∀ j, j < cS a 1 → gA σ' 61 j = nI ((sta a).1 j) := by
      intro v hv
      rw [stA_nI σ 61 k _ (by omega), nI_1]
      have f1 : fr [] [61] [] σ (sA σ 61 (upd (gA σ 61) k (nI v))) := fr_sA fr_rf (by decide)
      obtain ⟨σ', r1, r2, r3⟩ := ih (k + 1) m (sA σ 61 (upd (gA σ 61) k (nI v))) (by omega) (by omega) hX hO (fun j hj => by
        show upd (gA σ 61) k (nI v) j = _
        rw [upd_at]
        by_cases c : j = k
        · rw [if_pos c, c, hv]
        · rw [if_neg c]; exact h j (by omega))
      exact ⟨σ', r1, fr_tr f1 r2, r3⟩
    rw [fX1_startRun_L20, hX.2.2.2.2.2.1.1, if_neg (nI_ge hkK (by omega)), xWaiting hX hB hkK, Option.bind_some]
    simp only [pif, lt_def, if_pos i7]
    by_cases c : waitB a k = true
    · rw [if_pos c]
      exact key 400 (by show 400 = if waitB a k = true then 400 else soE a k; rw [if_pos c])
    · rw [if_neg c, ldA_nI _ 60 k (by omega), (hO.1 k hkK).2]
      exact key _ (by show soE a k = if waitB a k = true then 400 else soE a k; rw [if_neg c])
theorem xStart2 {a : AS} (hB : wfBg 0 0 a) : ∀ d h n σ, h + d = 3 → d < n → XR a σ → XO a σ → (∀ q, q < h → gA σ 62 q = nI ((sta a).2.1 q)) → ∃ σ', fX1_startRun_L65 n (nI h) σ = some σ' ∧ fr [] [62] [] σ σ' ∧ ∀ q, q < 3 → gA σ' 62 q = nI ((sta a).2.1 q) := by
  have hK := hB.1.1
  intro d
  induction d with
  | zero =>
    intro h n σ hh hn hX hO hp
    obtain ⟨m, rfl⟩ : ∃ m, n = m + 1 := ⟨n - 1, by omega⟩
    have : h = 3 := by omega
    subst this
    exact ⟨σ, by rw [fX1_startRun_L65, if_pos (show (3 : Int32) ≤ nI 3 by decide)], fr_rf, hp⟩
  | succ d ih =>
    intro h n σ hh hn hX hO hp
    obtain ⟨m, rfl⟩ : ∃ m, n = m + 1 := ⟨n - 1, by omega⟩
    have h3 : h < 3 := by omega
    have i3 : ix (nI h) 3 := ix_nI h3 (by decide)
    have key : ∀ v, v = (sta a).2.1 h → ∃ σ', fX1_startRun_L65 m (nI h + 1) (stA σ 62 (nI h) (nI v)) = some σ' ∧ fr [] [62] [] σ σ' ∧ ∀ q, q < 3 → gA σ' 62 q = nI ((sta a).2.1 q) := by
      intro v hv
      rw [stA_nI σ 62 h _ (by omega), nI_1]
      have f1 : fr [] [62] [] σ (sA σ 62 (upd (gA σ 62) h (nI v))) := fr_sA fr_rf (by decide)
      obtain ⟨σ', r1, r2, r3⟩ := ih (h + 1) m (sA σ 62 (upd (gA σ 62) h (nI v))) (by omega) (by omega) hX hO (fun j hj => by
        show upd (gA σ 62) h (nI v) j = _
        rw [upd_at]
        by_cases c : j = h
        · rw [if_pos c, c, hv]
        · rw [if_neg c]; exact hp j (by omega))
      exact ⟨σ', r1, fr_tr f1 r2, r3⟩
    have e53 := hX.2.2.2.2.2.2.1.2.2.2.2.1 h h3
    have b3 := hB.2.2.1 h h3
    rw [fX1_startRun_L65, if_neg (show ¬ (3 : Int32) ≤ nI h from nI_ge h3 (by decide)), if_pos i3, ldA_nI _ 53 h (by omega), e53]
    simp only [lt_def, if_pos i3]
    by_cases c : cN a 12 h = 0
    · rw [if_pos c, xStep_no hX (Or.inl (by decide)), Option.bind_some]
      simp only [if_true]
      rw [show gI σ 18 + 1 = nI (cS a 3 + 1) from by rw [hX.2.2.2.2.2.2.1.1, nI_1]]
      exact key _ (by show _ = if cN a 12 h = 0 then cS a 3 + 1 else soE a (cN a 12 h - 1) + 1; rw [if_pos c])
    · rw [if_neg c, xStep_yes hX.2.2.2.2.2.1.1 hK (by omega), Option.bind_some]
      simp only [if_neg one_ne]
      rw [if_pos (ix_nI (show cN a 12 h - 1 < 7 by omega) (by decide)), ldA_nI _ 60 _ (by omega), (hO.1 (cN a 12 h - 1) (by omega)).2, show nI (soE a (cN a 12 h - 1)) + 1 = nI (soE a (cN a 12 h - 1) + 1) from by rw [nI_1]]
      exact key _ (by show _ = if cN a 12 h = 0 then cS a 3 + 1 else soE a (cN a 12 h - 1) + 1; rw [if_neg c])
theorem xStart {a : AS} {n : Nat} {σ : ST} (hn : 100 ≤ n) (hB : wfBg 0 0 a) (hX : XR a σ) (hO : XO a σ) : ∃ σ', fX1_startRun n σ = some σ' ∧ fr [23, 26, 27] [61, 62] [] σ σ' ∧ XT a (sta a) 0 σ' := by
  have hK := hB.1.1
  unfold fX1_startRun
  simp only [lt_def]
  rw [hO.2]
  generalize hs1 : sI (sI (sI σ 26 (nI (floA a))) 27 0) 23 0 = σ1
  have f1 : fr [23, 26, 27] [61, 62] [] σ σ1 := by rw [← hs1]; exact fr_sI (fr_sI (fr_sI fr_rf (by decide)) (by decide)) (by decide)
  have g26 : gI σ1 26 = nI (floA a) := by rw [← hs1]; rfl
  have g27 : gI σ1 27 = 0 := by rw [← hs1]; rfl
  have g23 : gI σ1 23 = 0 := by rw [← hs1]; rfl
  clear hs1
  have hX1 := XR_fo (fr_up f1 (by decide) (by decide) (by decide)) hX
  have hO1 := XO_fr f1 hO (by decide) (by decide) (by decide)
  obtain ⟨σ2, r1, r2, r3⟩ := xStart1 hB (fun (σ_15 : ST) => (fX1_startRun_L65 n 0 σ_15)) (cS a 1) 0 n σ1 (by omega) (by omega) hX1 hO1 (fun j hj => absurd hj (Nat.not_lt_zero j))
  have hX2 := XR_fo (fr_up r2 (by decide) (by decide) (by decide)) hX1
  have hO2 := XO_fr r2 hO1 (by decide) (by decide) (by decide)
  obtain ⟨σ3, s1, s2, s3⟩ := xStart2 hB 3 0 n σ2 (by omega) (by omega) hX2 hO2 (fun j hj => absurd hj (Nat.not_lt_zero j))
  refine ⟨σ3, r1.trans s1, fr_tr f1 (fr_tr (fr_up r2 (by decide) (by decide) (by decide)) (fr_up s2 (by decide) (by decide) (by decide))), fun k hk => ?_, s3, ?_, ?_, ?_⟩
  · rw [s2.2.1 61 (by decide)]; exact r3 k hk
  · rw [s2.1 23 (by decide), r2.1 23 (by decide), g23]; rfl
  · rw [s2.1 26 (by decide), r2.1 26 (by decide), g26, cst_sta]
  · rw [s2.1 27 (by decide), r2.1 27 (by decide), g27]; rfl
theorem xOpen {a : AS} {σ : ST} {l : List Nat} {s : RS} {d B : Nat} (hB : B < 2 ^ 31) (hc : cstS a s < 2 ^ 31) (hb : s.2.2 < 128) (hl : l.length ≤ 7) (hQ : XQ l σ) (hT : XT a s d σ) : fX1_isOpen (nI B) σ = some (if cstS a s < B ∧ popc s.2.2 < l.length then 1 else 0, σ) := by
  unfold fX1_isOpen
  rw [hT.2.2.2.1, hT.2.2.1, xBitCount hb, Option.bind_some]
  have hp : popc s.2.2 < 2 ^ 31 := by
    have : popc s.2.2 ≤ 7 := by
      unfold popc
      have : ∀ n, sumTo (fun k => if s.2.2.testBit k = true then 1 else 0) n ≤ n := by
        intro n
        induction n with
        | zero => exact Nat.le_refl 0
        | succ n ih => rw [sumTo]; split <;> omega
      exact this 7
    omega
  show (if nI B ≤ nI (cstS a s) then some ((0 : Int32), σ) else (if gI σ 22 ≤ nI (popc s.2.2) then some ((0 : Int32), σ) else some ((1 : Int32), σ))) = _
  rw [hQ.1]
  by_cases c1 : B ≤ cstS a s
  · rw [if_pos (nI_le c1 hc), if_neg (by omega)]
  · rw [if_neg (nI_ge (by omega) hB)]
    by_cases c2 : l.length ≤ popc s.2.2
    · rw [if_pos (nI_le c2 hp), if_neg (by omega)]
    · rw [if_neg (nI_ge (by omega) (by omega)), if_pos (by omega)]
def endM (en : Nat → Nat) (t : Nat) : Nat → Nat
  | 0 => 0
  | k + 1 => if t ≤ en k then endM en t k else endM en t k ||| 2 ^ k
theorem endM_bit (en : Nat → Nat) (t j : Nat) : ∀ k, (endM en t k).testBit j = (decide (j < k) && decide (en j < t)) := by
  intro k
  induction k with
  | zero => rw [endM, Nat.zero_testBit]; simp
  | succ k ih =>
    rw [endM]
    by_cases c : t ≤ en k
    · rw [if_pos c, ih]
      by_cases e : j = k
      · subst e; simp; omega
      · have : (j < k) = (j < k + 1) := by apply propext; omega
        simp only [this]
    · rw [if_neg c, testBit_set, ih]
      by_cases e : j = k
      · subst e; simp; omega
      · have h1 : decide (k = j) = false := by simp; omega
        have : (j < k) = (j < k + 1) := by apply propext; omega
        rw [h1, Bool.or_false]; simp only [this]
theorem endM_lt (en : Nat → Nat) (t : Nat) : ∀ k, endM en t k < 2 ^ k := by
  intro k
  induction k with
  | zero => show 0 < 1; decide
  | succ k ih =>
    rw [endM]
    have : 2 ^ k < 2 ^ (k + 1) := Nat.pow_lt_pow_right (by decide) (by omega)
    split
    · omega
    · exact or_lt (by omega) this
theorem xEndedL {a : AS} {s : RS} {t : Nat} (ht : t < 2 ^ 31) (hK : cS a 1 ≤ 7) (hen : ∀ k, k < cS a 1 → s.1 k ≤ 400) : ∀ d k n σ, k + d = cS a 1 → d < n → gI σ 10 = nI (cS a 1) → (∀ k, k < cS a 1 → gA σ 61 k = nI (s.1 k)) → gI σ 24 = nI (endM s.1 t k) → ∃ σ', fX1_noteEnded_L7 n (nI t) (nI k) σ = some σ' ∧ fr [24] [] [] σ σ' ∧ gI σ' 24 = nI (endM s.1 t (cS a 1)) := by
  intro d
  induction d with
  | zero =>
    intro k n σ hk hn h10 h61 h24
    obtain ⟨m, rfl⟩ : ∃ m, n = m + 1 := ⟨n - 1, by omega⟩
    have : k = cS a 1 := by omega
    subst this
    exact ⟨σ, by rw [fX1_noteEnded_L7, h10, if_pos (nI_le (Nat.le_refl _) (by omega))], fr_rf, h24⟩
  | succ d ih =>
    intro k n σ hk hn h10 h61 h24
    obtain ⟨m, rfl⟩ : ∃ m, n = m + 1 := ⟨n - 1, by omega⟩
    have hkK : k < cS a 1 := by omega
    have := hen k hkK
    have hstep := endM.eq_2 s.1 t k
    rw [fX1_noteEnded_L7, h10, if_neg (nI_ge hkK (by omega)), if_pos (ix_nI (show k < 7 by omega) (by decide)), ldA_nI _ 61 k (by omega), h61 k hkK]
    simp only [lt_def, nI_1]
    by_cases c : t ≤ s.1 k
    · rw [if_pos (nI_le c (by omega))]
      rw [if_pos c] at hstep
      exact ih (k + 1) m σ (by omega) (by omega) h10 h61 (by rw [hstep]; exact h24)
    · rw [if_neg (nI_ge (by omega) ht), h24, nI_shl1 (by omega), nI_or]
      rw [if_neg c] at hstep
      obtain ⟨σ', r1, r2, r3⟩ := ih (k + 1) m (sI σ 24 (nI (endM s.1 t k ||| 2 ^ k))) (by omega) (by omega) h10 h61 (by rw [hstep]; rfl)
      exact ⟨σ', r1, fr_tr (fr_sI fr_rf (by decide)) r2, r3⟩
theorem xEnded {a : AS} {s : RS} {t d n : Nat} {σ : ST} (hn : 100 ≤ n) (ht : t < 2 ^ 31) (hB : wfBg 0 0 a) (hI : RI a t s) (hX : XR a σ) (hT : XT a s d σ) : ∃ σ', fX1_noteEnded n (nI t) σ = some σ' ∧ fr [24] [] [] σ σ' ∧ EN a t s σ' := by
  have hK := hB.1.1
  unfold fX1_noteEnded
  rw [lt_def, lt_def]
  obtain ⟨σ', r1, r2, r3⟩ := xEndedL (a := a) (s := s) (t := t) ht hK (fun k hk => (hI.1 k hk).2) (cS a 1) 0 n (sI σ 24 0) (by omega) (by omega) hX.2.2.2.2.2.1.1 hT.1 rfl
  refine ⟨σ', r1, fr_tr (fr_sI fr_rf (by decide)) r2, endM s.1 t (cS a 1), r3, ?_, fun j hj => ?_⟩
  · exact Nat.lt_of_lt_of_le (endM_lt _ _ _) (pow_le_128 hK)
  · rw [endM_bit]
    have : decide (j < cS a 1) = true := by simp; exact hj
    rw [this, Bool.true_and, decide_eq_true_iff]
theorem xRdy {a : AS} {s : RS} {t d k : Nat} {σ : ST} (ht : t < 2 ^ 31) (hA : wfA 600 a) (hB : wfBg 0 0 a) (hI : RI a t s) (hX : XR a σ) (hO : XO a σ) (hT : XT a s d σ) (hE : EN a t s σ) (hk : k < cS a 1) (hw : waitB a k = true) : fX1_isReady (nI k) (nI t) σ = some (if rdyB a t s k = true then 1 else 0, σ) := by
  have hK := hB.1.1
  have hs := hs_of hB
  have hbl := bg_lt hs hI
  have h4 := pt128 hs hk
  have hop : opA a k ≤ 400 := opG_le35 hA hB k
  obtain ⟨e, e1, e2, e3⟩ := hE
  have e25 := (hX.2.2.2.2.2.1.2.2.1 k hk).2.2.2.2.1
  have i7 : ix (nI k) 7 := ix_nI (by omega) (by decide)
  have hz := andN_le (cN a 4 k) e
  have ea : (nI (andN (cN a 4 k) e) = 0) ↔ ∀ j, (cN a 4 k).testBit j = true → s.1 j < t := by
    have h1 : (nI (andN (cN a 4 k) e) = 0) ↔ andN (cN a 4 k) e = 0 := nI_eq (b := 0) (by omega) (by decide)
    rw [h1, andN_zero (by omega)]
    constructor
    · intro q j hj; exact (e3 j (by have := pt_lt hs hk hj; omega)).mp (q j hj)
    · intro q j hj; exact (e3 j (by have := pt_lt hs hk hj; omega)).mpr (q j hj)
  have hr := rdyB_iff (t := t) (s := s) h4
  unfold fX1_isReady
  rw [hT.2.2.1, if_pos i7, if_pos i7, ldA_nI _ 59 k (by omega), (hO.1 k hk).1, ldA_nI _ 25 k (by omega), e25, e1, nI_andN]
  by_cases c1 : s.2.2.testBit k = true
  · rw [if_neg (fun q => by rw [bit_zero (by omega) (by omega), c1] at q; cases q), if_neg (fun q => by rw [(hr.mp q).2.1] at c1; cases c1)]
  · rw [if_pos ((bit_zero (by omega) (by omega)).mpr (by simpa using c1))]
    by_cases c2 : t < opA a k
    · rw [if_pos (nI_lt c2 (by omega)), if_neg (fun q => by have := (hr.mp q).2.2.1; omega)]
    · rw [if_neg (fun z => c2 ((nI_lt_iff ht (by omega)).mp z))]
      by_cases c3 : ∀ j, (cN a 4 k).testBit j = true → s.1 j < t
      · rw [if_pos (ea.mpr c3), if_pos (hr.mpr ⟨hw, by simpa using c1, by omega, c3⟩)]
      · rw [if_neg (fun q => c3 (ea.mp q)), if_neg (fun q => c3 (hr.mp q).2.2.2)]
