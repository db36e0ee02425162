/-! ===== PURE: foreseen ===== -/
theorem perm_of_sub : ∀ (l m : List Nat), l.Nodup → (∀ x ∈ l, x ∈ m) → m.length ≤ l.length → l.Perm m := by
  intro l
  induction l with
  | nil =>
    intro m _ _ h
    have : m = [] := List.length_eq_zero_iff.mp (by simpa using h)
    subst this; exact List.Perm.refl _
  | cons x xs ih =>
    intro m hn hs hl
    have hx : x ∈ m := hs x (List.mem_cons_self ..)
    have hn' := List.nodup_cons.mp hn
    refine (List.Perm.cons x (ih (m.erase x) hn'.2 (fun y hy => ?_) ?_)).trans (List.perm_cons_erase hx).symm
    · exact (List.mem_erase_of_ne (fun e => hn'.1 (by rw [← e]; exact hy))).mpr (hs y (List.mem_cons_of_mem _ hy))
    · rw [List.length_erase_of_mem hx]
      simp at hl ⊢; omega
def ordL (a : AS) : List Nat := (List.range (cS a 1)).map (cN a 13)
theorem ordL_perm {a : AS} (hB : wfBg 0 0 a) : (ordL a).Perm (List.range (cS a 1)) := by
  refine perm_of_sub _ _ ?_ (fun x hx => ?_) ?_
  · unfold ordL List.Nodup
    rw [List.pairwise_map]
    have : (List.range (cS a 1)).Pairwise (fun i j => i ≠ j) := List.nodup_range
    refine List.Pairwise.imp_of_mem (fun {i j} hi hj hne he => hne ?_) this
    exact hB.2.2.2.2.2.2.2.2.2 i j (List.mem_range.mp hi) (List.mem_range.mp hj) he
  · obtain ⟨i, hi, rfl⟩ := List.mem_map.mp hx
    exact List.mem_range.mpr (hB.2.2.2.2.2.2.2.2.1 i (List.mem_range.mp hi))
  · unfold ordL; rw [List.length_map]; exact Nat.le_refl _
theorem ordL_q {a : AS} (hB : wfBg 0 0 a) : QL a ((ordL a).filter (waitB a)) := (ordL_perm hB).filter _
theorem ordL_get {a : AS} {i : Nat} (hi : i < cS a 1) : (ordL a).getD i 0 = cN a 13 i := by
  unfold ordL
  simp [hi]
theorem mCp44 {k36 : Int32 → ST → Option (Int32 × ST)} {y : Int32} : ∀ d i n τ, i + d = 7 → d < n → (∀ q, q < i → gA τ 44 q = gA τ 34 q) → ∃ τ', fX11_foreseen_L12 k36 n y (nI i) τ = k36 y τ' ∧ fr [] [44] [] τ τ' ∧ ∀ q, q < 7 → gA τ' 44 q = gA τ' 34 q := by
  intro d
  induction d with
  | zero =>
    intro i n τ hi hn h
    obtain ⟨m, rfl⟩ : ∃ m, n = m + 1 := ⟨n - 1, by omega⟩
    have : i = 7 := by omega
    subst this
    exact ⟨τ, by rw [fX11_foreseen_L12, if_pos (show (7 : Int32) ≤ nI 7 by decide)], fr_rf, h⟩
  | succ d ih =>
    intro i n τ hi hn h
    obtain ⟨m, rfl⟩ : ∃ m, n = m + 1 := ⟨n - 1, by omega⟩
    have i7 : ix (nI i) 7 := ix_nI (by omega) (by decide)
    rw [fX11_foreseen_L12, if_neg (show ¬ (7 : Int32) ≤ nI i from nI_ge (show i < 7 by omega) (by decide))]
    simp only [if_pos i7, lt_def]
    rw [ldA_nI τ 34 i (by omega), stA_nI τ 44 i _ (by omega), nI_1]
    have f1 : fr [] [44] [] τ (sA τ 44 (upd (gA τ 44) i (gA τ 34 i))) := fr_sA fr_rf (by decide)
    obtain ⟨τ', r1, r2, r3⟩ := ih (i + 1) m (sA τ 44 (upd (gA τ 44) i (gA τ 34 i))) (by omega) (by omega) (fun q hq => by
      show upd (gA τ 44) i (gA τ 34 i) q = gA τ 34 q
      rw [upd_at]
      by_cases c : q = i
      · rw [if_pos c, c]
      · rw [if_neg c]; exact h q (by omega))
    exact ⟨τ', r1, fr_tr f1 r2, r3⟩
theorem foreseen_gen {n : Nat} (hn : 2000 ≤ n) (x : Int32) : SimStep Rel0 (fX10_foreseen n x) (fX11_foreseen n x) := by
  intro t σ τ ht hR
  obtain ⟨a, hA, hB, hC, hD, hX, hM, hk⟩ := id hR
  have hK : cS a 1 ≤ 7 := hB.1.1
  have hA6 := wfA_le hA (show t ≤ 600 by omega)
  have hB0 : wfBg 0 0 a := wfBg_0 (wfBg_1 hB)
  obtain ⟨v, hv, m1, m2, m3, m4⟩ := hM.2.2.2.2.2.1
  unfold fX10_foreseen fX11_foreseen
  rcases ix_or (x := x) (n := cS a 1) (by omega) with h | ⟨y, hy, rfl⟩
  · rw [xStep_no hX h, mStep_no hv m1 m2 h]
    simp only [Option.bind_some, if_true]
    exact ⟨-1, σ, τ, rfl, rfl, rel_same hR⟩
  · rw [xStep_yes hX.2.2.2.2.2.1.1 hK hy, mStep_yes hv m1 m2 hK hy]
    simp only [Option.bind_some, if_neg one_ne, lt_def]
    -- the class
    obtain ⟨σ1, r1, r2, r3, r4⟩ := xReck35 (n := n) (by omega) hA6 hB0 hX
    have hX1 := XR_fo (fr_up r2 (by decide) (by decide) (by decide)) hX
    have hO1 : XO a σ1 := ⟨r3, r4⟩
    have f0 : fr [22] [63] [] σ1 (sI σ1 22 0) := fr_sI fr_rf (by decide)
    obtain ⟨σ2, s1, s2, s3⟩ := xFillL hB0 (cS a 1) 0 n (sI σ1 22 0) (by omega) (by omega) (XR_fo (fr_up f0 (by decide) (by decide) (by decide)) hX1) ⟨rfl, fun i hi => absurd hi (Nat.not_lt_zero i)⟩
    have f2 : fr [22] [63] [] σ1 σ2 := fr_tr f0 s2
    have hX2 := XR_fo (fr_up f2 (by decide) (by decide) (by decide)) hX1
    have hO2 := XO_fr f2 hO1 (by decide) (by decide) (by decide)
    have hQ2 : XQ ((ordL a).filter (waitB a)) σ2 := s3
    have hL := ordL_q hB0
    obtain ⟨σ3, d, s, t1, t2, t3, t4, t5, t6, t7, t8⟩ := xAhead (n := n) (B := 280001) (by omega) hA6 hB0 hX2 hO2 hQ2 hL (by decide)
    have hX3 := XR_fo (fr_up t2 (by decide) (by decide) (by decide)) hX2
    have hsE : s = finS a ((ordL a).filter (waitB a)) := by
      rcases t8 with ⟨e, -⟩ | ⟨e, -⟩
      · exact e
      · omega
    have hend : fX1_endOf n (nI y) σ = some (nI ((finS a (ordL a)).1 y), σ3) := by
      have hfill : fX1_fillQueue n σ1 = some σ2 := s1
      unfold fX1_endOf
      rw [r1, Option.bind_some, hfill, Option.bind_some, show (280001 : Int32) = nI 280001 from rfl, t1, Option.bind_some, xBelow_yes (y := 7) (n := 7) rfl (by omega) (by decide), Option.bind_some]
      simp only [if_neg one_ne]
      rw [if_pos (ix_nI (show y < 7 by omega) (by decide)), ldA_nI _ 61 y (by omega), t3 y hy, hsE, finS_filter]
    rw [hend, Option.bind_some]
    -- the reference
    obtain ⟨τ1, u1, u2, u3⟩ := mCp44 (k36 := fun (x1_9 : Int32) (σ_10 : ST) => (Option.bind (fX11_foresees n σ_10) (fun q_11 => (if ix x1_9 7 then (some (ldA q_11 45 x1_9, q_11)) else none)))) (y := nI y) 7 0 n τ (by omega) (by omega) (fun q hq => absurd hq (Nat.not_lt_zero q))
    have hM1 := MR_fo (fr_up u2 (by decide) (by decide) (by decide)) hM
    have hol : (ordL a).length = cS a 1 := by unfold ordL; rw [List.length_map, List.length_range]
    obtain ⟨τ2, w1, w2, w3⟩ := mForesees (n := n) (r := ordL a) (by omega) hA6 hB0 hM1 (ordL_perm hB0) (fun i hi => by
      rw [hol] at hi
      rw [u3 i (by omega), ordL_get hi]
      exact hM1.2.2.2.2.2.2.1.2.2.2.1 i (by omega))
    have hM2 := MR_fo (fr_up w2 (by decide) (by decide) (by decide)) hM1
    have f5 : fr [] [44, 45, 46, 47, 48] [] τ τ2 := fr_tr (fr_up u2 (by decide) (by decide) (by decide)) (fr_up w2 (by decide) (by decide) (by decide))
    refine ⟨nI ((finS a (ordL a)).1 y), σ3, τ2, rfl, ?_, a, wfA_mono hA, hB, wfC_mono hC, hD, hX3, hM2, mKeys_fr f5 (by decide) hk⟩
    refine u1.trans ?_
    show Option.bind (fX11_foresees n τ1) (fun q_11 => (if ix (nI y) 7 then (some (ldA q_11 45 (nI y), q_11)) else none)) = _
    rw [w1, Option.bind_some, if_pos (ix_nI (show y < 7 by omega) (by decide)), ldA_nI _ 45 y (by omega), w3 y hy]
theorem sim_foreseen (x : Int32) : SimStep Rel0 (fX10_foreseen FU x) (fX11_foreseen FU x) := foreseen_gen (by decide) x
