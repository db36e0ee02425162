/-! ===== PURE: read: a STEP, the reference, whole ===== -/
def mRw (w : Nat) (D : Nat → Nat → Nat) (k : Nat) (τ : ST) : Prop := (gA τ 11 (7 * w + k) = nI (D 0 k) ∧ gA τ 12 (7 * w + k) = nI (D 1 k) ∧ gA τ 13 (7 * w + k) = nI (D 2 k)) ∧ (gA τ 16 (7 * w + k) = nI (D 3 k) ∧ gA τ 17 (7 * w + k) = nI (D 4 k) ∧ gA τ 18 (7 * w + k) = nI (D 5 k)) ∧ gA τ 14 (7 * w + k) = nI (500 * w + (if k = 0 then 0 else D 21 (k - 1))) ∧ gA τ 15 (7 * w + k) = nI (500 * w + D 21 k)
def MBt (tk tv pl : Nat → Nat) (mn : Nat → Int64) (L : Nat) (nt : Nat → Nat) (rp w K : Nat) (D : Nat → Nat → Nat) (c19 c20 : Nat → Int32) (s : PS) (τ : ST) : Prop :=
  MTk tk tv pl mn L τ ∧ NMm (fun k => mn (nt k)) rp w K τ ∧ (s.2.2.2.2.1 < 9 ∧ (s.2.2.2.2.1 ≠ 0 → s.2.2.2.2.2 < s.1) ∧ s.2.1.length ≤ s.1 ∧ s.2.1.length = (if K = 0 then 0 else D 21 (K - 1))) ∧
  (gI τ 6 = 0 ∧ gI τ 4 = nI s.1 ∧ s.1 ≤ L ∧ gI τ 8 = nI s.2.2.2.2.1 ∧ (s.2.2.2.2.1 ≠ 0 → gI τ 9 = nI (pl s.2.2.2.2.2)) ∧ gI τ 12 = nI w ∧ gA τ 8 w = nI K ∧ gI τ 5 = nI 0) ∧
  (gI τ 13 = nI (500 * w + s.2.1.length) ∧ ∀ j, j < s.2.1.length → gA τ 19 (500 * w + j) = nI (s.2.1.getD j (0, 0)).1 ∧ gA τ 20 (500 * w + j) = nI (s.2.1.getD j (0, 0)).2) ∧ stc w c19 c20 τ ∧
  ∀ k, k < K → mRw w D k τ
/-- the other side's rows stay -/
def out (w : Nat) (τ τ' : ST) : Prop := (∀ m j, 10 ≤ m → m ≤ 18 → (j < 7 * w ∨ 7 * w + 7 ≤ j) → gA τ' m j = gA τ m j) ∧ (∀ j, j ≠ w → gA τ' 8 j = gA τ 8 j)
theorem out_rf (w : Nat) (τ : ST) : out w τ τ := ⟨fun _ _ _ _ _ => rfl, fun _ _ => rfl⟩
theorem out_tr {w : Nat} {a b c : ST} (h1 : out w a b) (h2 : out w b c) : out w a c := ⟨fun m j x y z => (h2.1 m j x y z).trans (h1.1 m j x y z), fun j z => (h2.2 j z).trans (h1.2 j z)⟩
theorem out_fr {w : Nat} {I A B : List Nat} {τ τ' : ST} (f : fr I A B τ τ') (hA : ∀ m, m ∈ A → m < 8 ∨ m = 9 ∨ 18 < m) : out w τ τ' := by
  refine ⟨fun m j x y _ => ?_, fun j _ => ?_⟩
  · rw [f.2.1 m (fun q => by have := hA m q; omega)]
  · rw [f.2.1 8 (fun q => by have := hA 8 q; omega)]
theorem out_sA {w : Nat} {τ τ1 : ST} {k i : Nat} {x : Int32} (h : out w τ τ1) (hk : 9 ≤ k) (hi : 7 * w ≤ i ∧ i < 7 * w + 7) : out w τ (sA τ1 k (upd (gA τ1 k) i x)) := by
  refine ⟨fun m j a b c => ?_, fun j z => ?_⟩
  · rw [gA_sA]
    by_cases q : m = k
    · rw [if_pos q, upd_at, if_neg (by omega), ← q]; exact h.1 m j a b c
    · rw [if_neg q]; exact h.1 m j a b c
  · rw [gA_sA, if_neg (by omega)]; exact h.2 j z
theorem out_up {w : Nat} {τ τ' : ST} {k i : Nat} {x : Int32} (f : fr [] [k] [] τ τ') (hk : 10 ≤ k ∧ k ≤ 18) (hg : gA τ' k = upd (gA τ k) i x) (hi : 7 * w ≤ i ∧ i < 7 * w + 7) : out w τ τ' := by
  refine ⟨fun m j a b c => ?_, fun j z => ?_⟩
  · by_cases q : m = k
    · rw [q, hg, upd_at, if_neg (by omega)]
    · rw [f.2.1 m (fun z => q (List.mem_singleton.mp z))]
  · rw [f.2.1 8 (fun z => by have := List.mem_singleton.mp z; omega)]
/-- tables of parts -/
theorem mAllL {w K op ot : Nat} {al : Nat → Nat} (hw : w < 2) (hK : K < 7) (hop : op < 2 ^ K) (kk : ST → Option ST) : ∀ d k n τ, k + d = K → d < n → gI τ 12 = nI w → gA τ 8 w = nI K → gI τ 15 = nI op → (∀ j, j < K → gA τ 18 (7 * w + j) = nI (al j)) → gA τ 18 (7 * w + K) = nI (oA op al ot k) → ∃ τ', fX11_tell_L324 kk n (nI (7 * w + K)) (nI k) τ = kk τ' ∧ fr [] [18] [] τ τ' ∧ gA τ' 18 = upd (gA τ 18) (7 * w + K) (nI (oA op al ot K)) := by
  have hop31 : op < 2 ^ 31 := Nat.lt_of_lt_of_le hop (Nat.pow_le_pow_right (by decide) (by omega))
  have i14 : ix (nI (7 * w + K)) 14 := ix_nI (show 7 * w + K < 14 by omega) (by decide)
  intro d
  induction d with
  | zero =>
    intro k n τ hk hn h12 h8 h15 hal h18
    obtain ⟨m, rfl⟩ : ∃ m, n = m + 1 := ⟨n - 1, by omega⟩
    have hk' : k = K := by omega
    subst hk'
    rw [fX11_tell_L324, h12, if_pos (ix_nI hw (by decide)), ldA_nI _ 8 w (by omega), h8, if_pos (nI_le (Nat.le_refl _) (by omega))]
    refine ⟨τ, rfl, fr_rf, ?_⟩
    funext j
    rw [upd_at]
    by_cases q : j = 7 * w + k
    · rw [if_pos q, q, h18]
    · rw [if_neg q]
  | succ d ih =>
    intro k n τ hk hn h12 h8 h15 hal h18
    obtain ⟨m, rfl⟩ : ∃ m, n = m + 1 := ⟨n - 1, by omega⟩
    rw [fX11_tell_L324, h12, if_pos (ix_nI hw (by decide)), ldA_nI _ 8 w (by omega), h8, if_neg (nI_ge (by omega) (by omega)), h15, bit_get hop31 (by omega), m7]
    simp only [lt_def, nI_1, if_pos i14, if_pos (ix_nI (show 7 * w + k < 14 by omega) (show 14 < 2 ^ 31 by decide)), ldA_nI _ _ (7 * w + K) (show 7 * w + K < 2 ^ 31 by omega), ldA_nI _ _ (7 * w + k) (show 7 * w + k < 2 ^ 31 by omega), stA_nI _ _ (7 * w + K) _ (show 7 * w + K < 2 ^ 31 by omega), h18, hal k (by omega), nI_or]
    by_cases c : op.testBit k = true
    · rw [if_pos c, if_pos rfl]
      have e : oA op al ot (k + 1) = oA op al ot k ||| al k := by rw [oA, if_pos c]
      obtain ⟨τ', b1, b2, b3⟩ := ih (k + 1) m (sA τ 18 (upd (gA τ 18) (7 * w + K) (nI (oA op al ot k ||| al k)))) (by omega) (by omega) h12 h8 h15 (fun j hj => by rw [gA_sA, if_pos rfl, upd_at, if_neg (by omega)]; exact hal j hj) (by rw [gA_sA, if_pos rfl, upd_at, if_pos rfl, e])
      refine ⟨τ', b1, fr_tr (fr_sA fr_rf (by decide)) b2, ?_⟩
      rw [b3, gA_sA, if_pos rfl, upd_upd]
    · have e : oA op al ot (k + 1) = oA op al ot k := by rw [oA, if_neg c]
      rw [if_neg c, if_neg (show ¬ (0 : Int32) = 1 by decide)]
      exact ih (k + 1) m τ (by omega) (by omega) h12 h8 h15 hal (by rw [h18, e])
theorem nz01 (b : Prop) [Decidable b] : nz (if b then 1 else 0) = if b then 1 else 0 := by
  split <;> decide
/-- next, where a step begins -/
theorem mNextR {tk tv pl : Nat → Nat} {mn : Nat → Int64} {w K : Nat} {c19 c20 : Nat → Int32} {L : Nat} {s : PS} {S : List Nat} {τ : ST} (hT : TKs tk tv pl L) (hX : MTk tk tv pl mn L τ) (h : MRr pl w K c19 c20 L S (.inr s) τ) (h0 : tk s.1 ≠ 0) (h3 : tk s.1 ≠ 3) : ∃ τ', fX11_next τ = some τ' ∧ fr [4, 6, 7] [] [] τ τ' ∧ MRr pl w K c19 c20 L S (aAcc tk (tk s.1) s) τ' ∧ (∀ s', aAcc tk (tk s.1) s = .inr s' → gI τ' 4 = nI s'.1) := by
  obtain ⟨hM, h9, hsp⟩ := h
  obtain ⟨m1, m2⟩ := mNextN hT hX hM h0 h3
  by_cases c : s.1 = 400
  · obtain ⟨τ', a, b, d⟩ := m2 c
    have e : aAcc tk (tk s.1) s = .inl (2, s.1) := by unfold aAcc; rw [if_pos rfl, if_pos c]
    rw [e]
    exact ⟨τ', a, fr_up b (by decide) (by decide) (by decide), d.1, fun s' q => by cases q⟩
  · obtain ⟨a, b⟩ := m1 c
    have e : aAcc tk (tk s.1) s = .inr (s.1 + 1, s.2) := by unfold aAcc; rw [if_pos rfl, if_neg c]
    rw [e]
    exact ⟨_, a, fr_sI fr_rf (by decide), ⟨b, h9, fun z => Nat.lt_succ_of_lt (hsp z)⟩, fun s' q => by rw [← Sum.inr.inj q]; rfl⟩
def MEnd (tk tv pl : Nat → Nat) (mn : Nat → Int64) (L : Nat) (nt : Nat → Nat) (rp w K : Nat) (D : Nat → Nat → Nat) (c19 c20 : Nat → Int32) (t : Nat) (rep : Bool) (r : Res) (τ : ST) : Prop :=
  match r with
  | .inl e => MF0 pl w c19 c20 e τ
  | .inr s => MBt tk tv pl mn L (uN nt K (t + 1)) (rpN rp K rep) w (K + 1) (nD D tv K t rep s) c19 c20 s τ
def frT (τ τ' : ST) : Prop := fr [4, 5, 6, 7, 8, 9, 13, 14, 15, 16] [8, 10, 11, 12, 13, 14, 15, 16, 17, 18, 19, 20, 21] [9] τ τ'
theorem frT_up {I A B : List Nat} {τ τ' : ST} (f : fr I A B τ τ') (hI : ∀ k ∈ I, k ∈ [4, 5, 6, 7, 8, 9, 13, 14, 15, 16]) (hA : ∀ k ∈ A, k ∈ [8, 10, 11, 12, 13, 14, 15, 16, 17, 18, 19, 20, 21]) (hB : ∀ k ∈ B, k ∈ ([9] : List Nat)) : frT τ τ' := fr_up f hI hA hB
set_option maxHeartbeats 1000000 in
theorem mStepN {tk tv pl lk : Nat → Nat} {tw : Nat → Bool} {mn : Nat → Int64} {L : Nat} {nt : Nat → Nat} {rp w K n f : Nat} {D : Nat → Nat → Nat} {c19 c20 : Nat → Int32} {s : PS} {τ : ST} {r : Res} {rep : Bool} (hn : 1200 ≤ n) (hw : w < 2) (hK : K < 7) (hrp : rp < 2 ^ K) (hrep : rep = decide (tk s.1 = 22)) (hk : tk s.1 = 20 ∨ tk s.1 = 22)
    (hT : TKs tk tv pl L) (hlkM : ∀ i, i ≤ L → tk i = 1 → lk i = lkM (fun k => mn (nt k)) (rpN rp K rep) (mn i) 0 K) (hlk : ∀ i, tk i = 1 → lk i ≤ K) (htv : ∀ i, tk i = 2 → tv i < 10000) (htw : ∀ i, i ≤ L → tk i = 1 → tw i = twB (fun k => mn (nt k)) (mn i) 0 K) (h : MBt tk tv pl mn L nt rp w K D c19 c20 s τ) (hr : aStep tk tv lk tw f s = some r) :
    ∃ τ', tB n τ = some τ' ∧ frT τ τ' ∧ out w τ τ' ∧ MEnd tk tv pl mn L nt rp w K D c19 c20 s.1 rep r τ' := by
  have hL := hT.1
  obtain ⟨hX, hN, ⟨h9, hsp, hlen, hlen2⟩, ⟨e6, e4, hsL, e8, e9, e12, ea8, e5⟩, ⟨e13, ecd⟩, est, erow⟩ := id h
  obtain ⟨S, hS⟩ := stk_any τ
  generalize hx : (gI τ 14).toBitVec.toNat = x
  generalize hy : (gI τ 15).toBitVec.toNat = y
  have e14 : gI τ 14 = nI x := by rw [← hx, nI_any]
  have e15 : gI τ 15 = nI y := by rw [← hy, nI_any]
  have hM : MS pl w K c19 c20 L (wT x y s) S 0 τ := ⟨⟨e6, e4, hsL, e8, e9, e12, ea8, e14, e15, e5⟩, ⟨e13, ecd⟩, hS, est⟩
  have b31 : 7 * w + K < 2 ^ 31 := by omega
  have i14 : ix (nI (7 * w + K)) 14 := ix_nI (show 7 * w + K < 14 by omega) (by decide)
  have hT0 : 7 * w ≤ 7 * w + K ∧ 7 * w + K < 7 * w + 7 := by omega
  -- the kind
  have hv : (if tk s.1 = 22 then (1 : Int32) else 0) = if rep = true then 1 else 0 := by
    rw [hrep]
    by_cases c : tk s.1 = 22
    · rw [if_pos c, if_pos (decide_eq_true c)]
    · rw [if_neg c, if_neg (by rw [decide_eq_false c]; decide)]
  generalize hv2 : (if rep = true then (1 : Int32) else 0) = vr at hv
  generalize hs1 : sA τ 10 (upd (gA τ 10) (7 * w + K) vr) = τ1
  have f1' : fr [] [10, 11, 12, 13, 14, 15, 16, 17, 18] [9] τ τ1 := by rw [← hs1]; exact fr_sA fr_rf (by decide)
  have f1 : frT τ τ1 := by rw [← hs1]; exact fr_sA fr_rf (by decide)
  have o1 : out w τ τ1 := by rw [← hs1]; exact out_sA (out_rf w τ) (by decide) hT0
  have g10 : gA τ1 10 = upd (gA τ 10) (7 * w + K) vr := by rw [← hs1]; rfl
  have hX1 : MTk tk tv pl mn L τ1 := MTk_fr f1 hX (by decide) (by decide) (by decide) (by decide)
  have h1 : MRr pl w K c19 c20 L S (.inr (wT x y s)) τ1 := MRr_out f1' ⟨hM, h9, hsp⟩
  obtain ⟨τ2, a1, a2, a3, a4⟩ := mNextR hT hX1 h1 (by show tk s.1 ≠ 0; omega) (by show tk s.1 ≠ 3; omega)
  have f2 : frT τ1 τ2 := frT_up a2 (by decide) (by decide) (by decide)
  have o2 : out w τ1 τ2 := out_fr a2 (by decide)
  have hX2 : MTk tk tv pl mn L τ2 := MTk_fr a2 hX1 (by decide) (by decide) (by decide) (by decide)
  obtain ⟨τ3, v1, v2, v3, b1, b2, b11, b12, b13, b3, b4⟩ := mHead (n := n) (rep := rep) (x2 := gI τ2 4) hw hK hT hX2 a3 (by rw [a2.2.1 10 (by decide), g10, upd_at, if_pos rfl, hv2])
  have f3 : frT τ2 τ3 := frT_up b2 (by decide) (by decide) (by decide)
  have o3 : out w τ2 τ3 := by
    refine ⟨fun m j p q z => ?_, fun j _ => by rw [b2.2.1 8 (by decide)]⟩
    by_cases c : m = 11
    · rw [c, b11, upd_at, if_neg (by omega)]
    · by_cases c2 : m = 12
      · rw [c2, b12, upd_at, if_neg (by omega)]
      · by_cases c3 : m = 13
        · rw [c3, b13, upd_at, if_neg (by omega)]
        · rw [b2.2.1 m (fun q => by simp only [List.mem_cons, List.not_mem_nil, or_false] at q; omega)]
  have hX3 : MTk tk tv pl mn L τ3 := MTk_H b2 hX2
  have run : tB n τ = tD2 n (nI (7 * w + K)) (gI τ2 4) τ3 := by
    unfold tB
    rw [e6, if_pos (show (0 : Int32) ≤ 0 by decide), e12, if_pos (ix_nI hw (by decide)), ldA_nI _ 8 w (by omega), ea8, m7, lt_def, show (22 : Int32) = nI 22 from rfl, mIsN hT hX hM 22 (by decide), Option.bind_some, if_pos i14]
    show Option.bind (fX11_next (stA τ 10 (nI (7 * w + K)) (nz (if tk s.1 = 22 then 1 else 0)))) (fun q_9 => tHd n (nI (7 * w + K)) (gI q_9 4) q_9) = _
    rw [nz01, hv, stA_nI _ 10 _ _ b31, hs1, a1, Option.bind_some, b1]
  have f13 : frT τ τ3 := fr_tr f1 (fr_tr f2 f3)
  have o13 : out w τ τ3 := out_tr o1 (out_tr o2 o3)
  rw [run]
  -- the head in words of the class's order
  unfold aStep at hr
  rw [← hrep] at hr
  have et : wT x y s = wT x y (st0 s) := rfl
  have ek : tk (wT x y s).1 = tk s.1 := rfl
  rw [ek, et, acc_wT] at b3 b4
  have fault : ∀ e, MF0 pl w c19 c20 e τ3 → r = .inl e → ∃ τ', tD2 n (nI (7 * w + K)) (gI τ2 4) τ3 = some τ' ∧ frT τ τ' ∧ out w τ τ' ∧ MEnd tk tv pl mn L nt rp w K D c19 c20 s.1 rep r τ' := by
    intro e hF hre
    unfold tD2
    rw [hF.1, if_neg (fl_pos hF.2.1), hre]
    exact ⟨τ3, rfl, f13, o13, hF⟩
  cases hR1 : aAcc tk (tk s.1) (st0 s) with
  | inl e =>
    rw [hR1] at b3 hr
    exact fault e b3 (Option.some.inj hr).symm
  | inr s1 =>
    have k1 := aAcc_ok hR1
    have e1 : s1.1 = s.1 + 1 := by rw [k1.2.2]; rfl
    rw [hR1] at b3 b4 hr
    have hp1 : s1.2.2.2.2.1 ≠ 0 → s1.2.2.2.2.2 < s1.1 := by
      rw [k1.2.2]; intro z; have := hsp z; show _ < s.1 + 1; exact Nat.lt_succ_of_lt this
    obtain ⟨he1, he2⟩ := head_eq (tk := tk) (tv := tv) (tw := tw) (rep := rep) hp1
    have emp : bS (bS (mp (wT x y) (.inr s1)) (aAcc tk 1)) (aTl tk tv rep) = mp (wT x y) (bS (aAcc tk 1 s1) (aTl tk tv rep)) := by
      show bS (aAcc tk 1 (wT x y s1)) (aTl tk tv rep) = _
      rw [acc_wT, tl_mp (acc_wT tk x y) (int_wT tk tv x y)]
    rw [emp] at b3
    cases hR9 : bS (aAcc tk 1 s1) (aTl tk tv rep) with
    | inl e =>
      rw [hR9] at b3
      have hre : bS (bS (.inr s1) (aNm tk tw)) (aTl tk tv rep) = .inl e := he1 e hR9
      rw [hre] at hr
      exact fault e b3 (Option.some.inj hr).symm
    | inr s9' =>
      rw [hR9] at b3
      have hre : bS (bS (.inr s1) (aNm tk tw)) (aTl tk tv rep) = .inr (if tw s1.1 = true then wr 3 s1.1 s9' else s9') := he2 s9' hR9
      rw [hre] at hr
      generalize hs9 : (if tw s1.1 = true then wr 3 s1.1 s9' else s9') = s9 at hr
      have hr' : bO (ev tk tv lk f 3 0 s9) (fun s10 => some (aAcc tk 6 s10)) = some r := hr
      obtain ⟨hM3, h39, h3p⟩ : MS pl w K c19 c20 L (wT x y s9') S 0 τ3 ∧ _ := b3
      obtain ⟨s2, y1, y2⟩ := bS_ok hR9
      have k2 := kp_acc y1
      have k3 := kp_tl y2
      have hL9 : s9'.1 ≤ L := hM3.1.2.2.1
      have kk3 : s2.1 < s9'.1 := k3.2.1
      have kk2 : s2.1 = s1.1 + 1 := k2.2.1
      have htL : s1.1 ≤ L := by omega
      have hk1 : tk s1.1 = 1 := k2.2.2
      have e24 : gI τ2 4 = nI s1.1 := a4 (wT x y s1) (by rw [ek, et, acc_wT, hR1]; rfl)
      have hN3 : NMm (fun k => mn (nt k)) rp w K τ3 := by
        intro k hk'
        have q1 : gB τ3 9 = gB τ 9 := by rw [b2.2.2 9 (by decide), a2.2.2 9 (by decide), ← hs1]; rfl
        have q2 : gA τ3 10 (7 * w + k) = gA τ 10 (7 * w + k) := by rw [b2.2.1 10 (by decide), a2.2.1 10 (by decide), g10, upd_at, if_neg (by omega)]
        rw [q1, q2]; exact hN k hk'
      obtain ⟨τ4, c1, c2, c3⟩ := mTwL (x := mn s1.1) hw hK hT htL (tE n) K 0 n (wT x y s9') τ3 (by omega) (by omega) hX3 hN3 ((hX3 _ htL).2.2.2 hk1) hM3 h39 (fun z => by have := h3p z; have q : (wT x y s9').1 = s9'.1 := rfl; omega)
      have es9 : (if twB (fun k => mn (nt k)) (mn s1.1) 0 K = true then wr 3 s1.1 (wT x y s9') else wT x y s9') = wT x y s9 := by
        rw [← htw s1.1 htL hk1, ← hs9]
        by_cases q : tw s1.1 = true
        · rw [if_pos q, if_pos q, wr_wT]
        · rw [if_neg q, if_neg q]
      rw [es9] at c3
      have f4 : frT τ3 τ4 := frT_up c2 (by decide) (by decide) (by decide)
      have o4 : out w τ3 τ4 := out_fr c2 (by decide)
      have hX4 : MTk tk tv pl mn L τ4 := MTk_fr c2 hX3 (by decide) (by decide) (by decide) (by decide)
      have hN4 := NMm_fr c2 hN3 (by decide) (by decide)
      have run2 : tD2 n (nI (7 * w + K)) (gI τ2 4) τ3 = tE n (nI (7 * w + K)) (nI s1.1) τ4 := by
        unfold tD2
        rw [hM3.1.1, if_pos (show (0 : Int32) ≤ 0 by decide), hM3.1.2.2.2.2.2.1, e24, show (7 : Int32) * nI w = nI (7 * w + 0) from by rw [show (7 : Int32) = nI 7 from rfl, pk_mul]; rfl]
        exact c1
      rw [run2]
      -- s9 as the class has it
      have w9 : s9.1 = s9'.1 ∧ s9.2.1 = s9'.2.1 ∧ s9.2.2.1 = s9'.2.2.1 ∧ s9.2.2.2.1 = s9'.2.2.2.1 := by
        rw [← hs9]; split
        · unfold wr; split <;> exact ⟨rfl, rfl, rfl, rfl⟩
        · exact ⟨rfl, rfl, rfl, rfl⟩
      have z9 : s9.2.2.1 = 0 ∧ s9.2.2.2.1 = 0 ∧ s9.2.1 = s.2.1 := by
        rw [w9.2.2.1, w9.2.2.2, w9.2.1, k3.1.2.1, k3.1.2.2.1, k3.1.1, k2.1.2.1, k2.1.2.2.1, k2.1.1, k1.2.2]
        exact ⟨rfl, rfl, rfl⟩
      have h99 : s9.2.2.2.2.1 < 9 := by
        rw [← hs9]; split
        · exact wr_9 (by decide) h39
        · exact h39
      have h9p : s9.2.2.2.2.1 ≠ 0 → s9.2.2.2.2.2 < s9.1 := by
        intro z
        have h3p' : s9'.2.2.2.2.1 ≠ 0 → s9'.2.2.2.2.2 ≤ s9'.1 - 1 := fun q => by have q2 : s9'.2.2.2.2.2 < s9'.1 := h3p q; omega
        have : s9.2.2.2.2.2 ≤ s9'.1 - 1 := by
          rw [← hs9] at z ⊢
          split at z
          · rename_i q; rw [if_pos q]; exact wr_p (by omega) h3p' z
          · rename_i q; rw [if_neg q]; exact h3p' z
        omega
      have i145 : gI τ4 13 = nI (500 * w + s9.2.1.length) := c3.2.1.1
      generalize hs5 : sI (sI (sA τ4 14 (upd (gA τ4 14) (7 * w + K) (gI τ4 13))) 14 ((0 : Int32))) 15 ((0 : Int32)) = τ5
      have f5 : frT τ4 τ5 := by rw [← hs5]; exact fr_sI (fr_sI (fr_sA fr_rf (by decide)) (by decide)) (by decide)
      have o5 : out w τ4 τ5 := by
        rw [← hs5]
        exact out_tr (out_sA (out_rf w τ4) (by decide) hT0) (out_fr (fr_sI (fr_sI fr_rf (by decide)) (by decide) : fr [14, 15] [] [] (sA τ4 14 (upd (gA τ4 14) (7 * w + K) (gI τ4 13))) _) (by decide))
      have hM5 : MS pl w K c19 c20 L s9 [] 0 (sI τ5 16 0) := by
        obtain ⟨⟨p1, p2, p3, p4, p5, p6, p7, p8, p9, p10⟩, pg, pk, pst⟩ := c3
        rw [← hs5]
        refine ⟨⟨p1, p2, p3, p4, p5, p6, p7, ?_, ?_, p10⟩, pg, ⟨rfl, fun j hj => absurd hj (Nat.not_lt_zero j)⟩, pst⟩
        · rw [z9.1]; rfl
        · rw [z9.2.1]; rfl
      have hX5 : MTk tk tv pl mn L τ5 := MTk_fr f5 hX4 (by decide) (by decide) (by decide) (by decide)
      have hN5 : NMm (fun k => mn (nt k)) (rpN rp K rep) w K τ5 := by
        intro k hk'
        have q1 : gB τ5 9 = gB τ4 9 := by rw [← hs5]; rfl
        have q2 : gA τ5 10 = gA τ4 10 := by rw [← hs5]; rfl
        have q3 : (rpN rp K rep).testBit k = rp.testBit k := by
          unfold rpN; split
          · rw [testBit_set, decide_eq_false (by omega : ¬ K = k), Bool.or_false]
          · rfl
        rw [q1, q2, q3]; exact hN4 k hk'
      have hZ5 : MZ tk tv pl mn (fun k => mn (nt k)) (rpN rp K rep) w K c19 c20 L s9 (sI τ5 16 0) := by
        refine ⟨hX5, hN5, h99, h9p, ?_⟩
        rw [z9.2.2, w9.1]; omega
      obtain ⟨r10, hev⟩ : ∃ r10, ev tk tv lk f 3 0 s9 = some r10 := by
        rcases bO_some hr' with ⟨e, g1, -⟩ | ⟨s10, g1, -⟩
        · exact ⟨_, g1⟩
        · exact ⟨_, g1⟩
      obtain ⟨τ6, d1, d2, d3⟩ := mExpr hT hw hK hlkM hlk htv hn hZ5 hM5 hev
      have f6 : frT τ5 τ6 := frT_up d2 (by decide) (by decide) (by decide)
      have o6 : out w τ5 τ6 := out_fr d2 (by decide)
      have hX6 : MTk tk tv pl mn L τ6 := MTk_fr d2 hX5 (by decide) (by decide) (by decide) (by decide)
      generalize hs7 : sA τ6 15 (upd (gA τ6 15) (7 * w + K) (gI τ6 13)) = τ7
      have f7 : frT τ6 τ7 := by rw [← hs7]; exact fr_sA fr_rf (by decide)
      have f7' : fr [] [10, 11, 12, 13, 14, 15, 16, 17, 18] [9] τ6 τ7 := by rw [← hs7]; exact fr_sA fr_rf (by decide)
      have o7 : out w τ6 τ7 := by rw [← hs7]; exact out_sA (out_rf w τ6) (by decide) hT0
      have hX7 : MTk tk tv pl mn L τ7 := MTk_fr f7 hX6 (by decide) (by decide) (by decide) (by decide)
      have d3' := MRr_out f7' d3
      obtain ⟨τ8, l1, l2, l3⟩ := mMustR (k := 6) (by decide) (by decide) (by decide) hT hX7 d3'
      have f8 : frT τ7 τ8 := frT_up l2 (by decide) (by decide) (by decide)
      have o8 : out w τ7 τ8 := out_fr l2 (by decide)
      have hX8 : MTk tk tv pl mn L τ8 := MTk_fr l2 hX7 (by decide) (by decide) (by decide) (by decide)
      have run3 : tE n (nI (7 * w + K)) (nI s1.1) τ4 = tF n (nI (7 * w + K)) (nI s1.1) τ8 := by
        unfold tE
        rw [if_pos i14, stA_nI _ 14 _ _ b31, lt_def, lt_def, lt_def, hs5, d1, Option.bind_some, if_pos i14, stA_nI _ 15 _ _ b31, lt_def, hs7, show (6 : Int32) = nI 6 from rfl, l1, Option.bind_some]
      rw [run3]
      have f18 : frT τ τ8 := fr_tr f13 (fr_tr f4 (fr_tr f5 (fr_tr f6 (fr_tr f7 f8))))
      have o18 : out w τ τ8 := out_tr o13 (out_tr o4 (out_tr o5 (out_tr o6 (out_tr o7 o8))))
      have er : r = bS r10 (aAcc tk 6) := by
        rw [hev] at hr'
        cases r10 with
        | inl e => exact (Option.some.inj hr').symm
        | inr s10 => exact (Option.some.inj hr').symm
      rw [← er] at l3
      cases hrr : r with
      | inl e =>
        rw [hrr] at l3
        have l3' : MF0 pl w c19 c20 e τ8 := l3
        unfold tF
        rw [l3'.1, if_neg (fl_pos l3'.2.1)]
        exact ⟨τ8, rfl, f18, o18, l3'⟩
      | inr s' =>
        rw [hrr] at l3 er
        obtain ⟨hM8, h89, h8p⟩ : MS pl w K c19 c20 L s' [] 0 τ8 ∧ _ := l3
        obtain ⟨⟨p1, p2, p3, p4, p5, p6, p7, p8, p9, p10⟩, ⟨pg1, pg2⟩, pk, pst⟩ := id hM8
        obtain ⟨s10, x1, x2⟩ := bS_ok er.symm
        rw [x1] at hev d3
        have es' := (aAcc_ok x2).2.2
        obtain ⟨cd, u1, -, -⟩ := ev_inv (tk := tk) (tv := tv) (lk := lk) (K := K) (by omega) htv hlk f 3 0 s9 s10 hev
        have hop : s'.2.2.2.1 < 2 ^ K := by
          rw [es']
          refine u1.2.2.2.2.2.2.1 ?_
          rw [z9.2.1]; exact Nat.two_pow_pos K
        have hmn : gB τ8 6 s1.1 = mn s1.1 := (hX8 _ htL).2.2.2 hk1
        have i403 : ix (nI s1.1) 403 := ix_nI (show s1.1 < 403 by omega) (by decide)
        -- the rows so far
        have r14 : gA τ8 14 = upd (gA τ 14) (7 * w + K) (nI (500 * w + s.2.1.length)) := by
          rw [l2.2.1 14 (by decide), ← hs7]; show gA τ6 14 = _
          rw [d2.2.1 14 (by decide), ← hs5]; show upd (gA τ4 14) _ (gI τ4 13) = _
          rw [i145, z9.2.2, c2.2.1 14 (by decide), b2.2.1 14 (by decide), a2.2.1 14 (by decide), ← hs1]; rfl
        have r15 : gA τ8 15 = upd (gA τ 15) (7 * w + K) (nI (500 * w + s'.2.1.length)) := by
          have q : gI τ6 13 = nI (500 * w + s'.2.1.length) := by
            obtain ⟨q1, -⟩ : MS pl w K c19 c20 L s10 [] 0 τ6 ∧ _ := d3
            rw [q1.2.1.1, es']
          rw [l2.2.1 15 (by decide), ← hs7]; show upd (gA τ6 15) _ (gI τ6 13) = _
          rw [q, d2.2.1 15 (by decide), ← hs5]; show upd (gA τ4 15) _ _ = _
          rw [c2.2.1 15 (by decide), b2.2.1 15 (by decide), a2.2.1 15 (by decide), ← hs1]; rfl
        have mid : ∀ m, m = 10 ∨ m = 11 ∨ m = 12 ∨ m = 13 ∨ m = 16 ∨ m = 17 ∨ m = 18 → gA τ8 m = gA τ3 m := by
          intro m hm
          have q1 : gA τ7 m = gA τ6 m := by rw [← hs7, gA_sA, if_neg (by omega)]
          have q2 : gA τ5 m = gA τ4 m := by rw [← hs5]; show gA (sA τ4 14 _) m = _; rw [gA_sA, if_neg (by omega)]
          rw [l2.2.1 m (by simp), q1, d2.2.1 m (by simp only [List.mem_cons, List.not_mem_nil, or_false]; omega), q2, c2.2.1 m (by simp)]
        have r11 : gA τ8 11 = upd (gA τ 11) (7 * w + K) v1 := by rw [mid 11 (by omega), b11, a2.2.1 11 (by decide), ← hs1]; rfl
        have r12 : gA τ8 12 = upd (gA τ 12) (7 * w + K) v2 := by rw [mid 12 (by omega), b12, a2.2.1 12 (by decide), ← hs1]; rfl
        have r13 : gA τ8 13 = upd (gA τ 13) (7 * w + K) v3 := by rw [mid 13 (by omega), b13, a2.2.1 13 (by decide), ← hs1]; rfl
        have r10' : gA τ8 10 = upd (gA τ 10) (7 * w + K) vr := by rw [mid 10 (by omega), b2.2.1 10 (by decide), a2.2.1 10 (by decide), g10]
        have r16 : gA τ8 16 = gA τ 16 := by rw [mid 16 (by omega), b2.2.1 16 (by decide), a2.2.1 16 (by decide), ← hs1]; rfl
        have r17 : gA τ8 17 = gA τ 17 := by rw [mid 17 (by omega), b2.2.1 17 (by decide), a2.2.1 17 (by decide), ← hs1]; rfl
        have r18 : gA τ8 18 = gA τ 18 := by rw [mid 18 (by omega), b2.2.1 18 (by decide), a2.2.1 18 (by decide), ← hs1]; rfl
        have rb9 : gB τ8 9 = gB τ 9 := by
          have q1 : gB τ7 9 = gB τ6 9 := by rw [← hs7]; rfl
          have q2 : gB τ5 9 = gB τ4 9 := by rw [← hs5]; rfl
          rw [l2.2.2 9 (by decide), q1, d2.2.2 9 (by decide), q2, c2.2.2 9 (by decide), b2.2.2 9 (by decide), a2.2.2 9 (by decide), ← hs1]; rfl
        obtain ⟨hv1, hv2', hv3⟩ := b4 (wT x y s1) (wT x y s9') rfl (by rw [acc_wT, tl_mp (acc_wT tk x y) (int_wT tk tv x y), hR9]; rfl)
        have ew1 : (wT x y s1).1 = s.1 + 1 := e1
        rw [ew1] at hv1 hv2' hv3
        -- the end
        generalize hs9b : sA (sA (sA (sB τ8 9 (vp_updL (gB τ8 9) (7 * w + K) (mn s1.1))) 16 (upd (gA τ 16) (7 * w + K) (nI s'.2.2.1))) 17 (upd (gA τ 17) (7 * w + K) (nI s'.2.2.2.1))) 18 (upd (gA τ 18) (7 * w + K) (nI s'.2.2.1)) = τ9
        have f9 : frT τ8 τ9 := by rw [← hs9b]; exact fr_sA (fr_sA (fr_sA (fr_sB fr_rf (by decide)) (by decide)) (by decide)) (by decide)
        have o9 : out w τ8 τ9 := by
          refine ⟨fun m j p q z => ?_, fun j _ => by rw [← hs9b]; rfl⟩
          by_cases c : m = 16
          · rw [c, ← hs9b]; show upd (gA τ 16) _ _ j = _; rw [upd_at, if_neg (by omega), r16]
          · by_cases c2 : m = 17
            · rw [c2, ← hs9b]; show upd (gA τ 17) _ _ j = _; rw [upd_at, if_neg (by omega), r17]
            · by_cases c3 : m = 18
              · rw [c3, ← hs9b]; show upd (gA τ 18) _ _ j = _; rw [upd_at, if_neg (by omega), r18]
              · rw [← hs9b, gA_sA, if_neg c3, gA_sA, if_neg c2, gA_sA, if_neg c]; rfl
        obtain ⟨τA, m1, m2, m3⟩ := mAllL (al := D 5) (ot := s'.2.2.1) hw hK hop tG K 0 n τ9 (by omega) (by omega) (by rw [← hs9b]; exact p6) (by rw [← hs9b]; exact p7) (by rw [← hs9b]; exact p9) (fun j hj => by
          rw [← hs9b]; show upd (gA τ 18) _ _ _ = _; rw [upd_at, if_neg (by omega)]; exact (erow j hj).2.1.2.2) (by rw [← hs9b]; show upd (gA τ 18) _ _ _ = _; rw [upd_at, if_pos rfl]; rfl)
        have fA : frT τ9 τA := frT_up m2 (by decide) (by decide) (by decide)
        have oA' : out w τ9 τA := out_up m2 (by decide) m3 hT0
        have gA12 : gI τA 12 = nI w := by rw [m2.1 12 (by decide), ← hs9b]; exact p6
        have gA8 : gA τA 8 w = nI K := by rw [m2.2.1 8 (by decide), ← hs9b]; exact p7
        have run4 : tF n (nI (7 * w + K)) (nI s1.1) τ8 = some (sA τA 8 (upd (gA τA 8) w (nI (K + 1)))) := by
          unfold tF
          rw [p1, if_pos (show (0 : Int32) ≤ 0 by decide), if_pos i403, if_pos i14, stB_nI _ 9 _ _ b31, ldB_nI _ 6 _ (by omega), hmn]
          simp only [lt_def, if_pos i14, stA_nI _ _ (7 * w + K) _ b31]
          have step : sA (sA (sA (sB τ8 9 (vp_updL (gB τ8 9) (7 * w + K) (mn s1.1))) 16 (upd (gA τ8 16) (7 * w + K) (gI τ8 14))) 17 (upd (gA τ8 17) (7 * w + K) (gI τ8 15))) 18 (upd (gA τ8 18) (7 * w + K) (gI τ8 14)) = τ9 := by
            rw [r16, r17, r18, p8, p9]; exact hs9b
          refine Eq.trans (congrArg (fX11_tell_L324 tG n (nI (7 * w + K)) 0) (show _ = τ9 from step)) ?_
          have m1' : fX11_tell_L324 tG n (nI (7 * w + K)) 0 τ9 = tG τA := m1
          rw [m1']
          unfold tG
          rw [gA12, if_pos (ix_nI hw (by decide)), if_pos (ix_nI hw (by decide)), ldA_nI _ 8 w (by omega), gA8, nI_1, stA_nI _ 8 w _ (by omega)]
        rw [run4]
        have oB : out w τA (sA τA 8 (upd (gA τA 8) w (nI (K + 1)))) := by
          refine ⟨fun m j p q z => by rw [gA_sA, if_neg (by omega)], fun j z => ?_⟩
          rw [gA_sA, if_pos rfl, upd_at, if_neg z]
        refine ⟨_, rfl, fr_sA (fr_tr f18 (fr_tr f9 fA)) (by decide), out_tr o18 (out_tr o9 (out_tr oA' oB)), ?_⟩
        have fin : ∀ k, gI (sA τA 8 (upd (gA τA 8) w (nI (K + 1)))) k = gI τ8 k := fun k => by
          show gI τA k = _; rw [m2.1 k (by simp), ← hs9b]; rfl
        have finA : ∀ m, m ≠ 8 → m ≠ 16 → m ≠ 17 → m ≠ 18 → gA (sA τA 8 (upd (gA τA 8) w (nI (K + 1)))) m = gA τ8 m := fun m a b c d => by
          rw [gA_sA, if_neg a, m2.2.1 m (by simp only [List.mem_cons, List.not_mem_nil, or_false]; exact d), ← hs9b, gA_sA, if_neg d, gA_sA, if_neg c, gA_sA, if_neg b]; rfl
        have fin16 : gA (sA τA 8 (upd (gA τA 8) w (nI (K + 1)))) 16 = upd (gA τ 16) (7 * w + K) (nI s'.2.2.1) := by
          show gA τA 16 = _; rw [m2.2.1 16 (by decide), ← hs9b]; rfl
        have fin17 : gA (sA τA 8 (upd (gA τA 8) w (nI (K + 1)))) 17 = upd (gA τ 17) (7 * w + K) (nI s'.2.2.2.1) := by
          show gA τA 17 = _; rw [m2.2.1 17 (by decide), ← hs9b]; rfl
        have fin18 : gA (sA τA 8 (upd (gA τA 8) w (nI (K + 1)))) 18 = upd (gA τ 18) (7 * w + K) (nI (oA s'.2.2.2.1 (D 5) s'.2.2.1 K)) := by
          show gA τA 18 = _; rw [m3, ← hs9b]; show upd (upd (gA τ 18) _ _) _ _ = _; rw [upd_upd]
        have finB : gB (sA τA 8 (upd (gA τA 8) w (nI (K + 1)))) 9 = vp_updL (gB τ 9) (7 * w + K) (mn s1.1) := by
          show gB τA 9 = _; rw [m2.2.2 9 (by decide), ← hs9b]; show vp_updL (gB τ8 9) _ _ = _; rw [rb9]
        have hlen' : s'.2.1.length ≤ s'.1 := by
          rw [es']
          show s10.2.1.length ≤ s10.1 + 1
          have q := (MZ_next hZ5 u1 (frM_up (fr_rf : fr [] [] [] (sI τ5 16 0) (sI τ5 16 0)) (by simp) (by simp) (by simp))).2.2.2.2
          omega
        show MBt tk tv pl mn L (uN nt K (s.1 + 1)) (rpN rp K rep) w (K + 1) (nD D tv K s.1 rep s') c19 c20 s' _
        have hDK : ∀ j k, k ≠ K → nD D tv K s.1 rep s' j k = D j k := fun j k q => by unfold nD; rw [if_neg q]
        have e0' : nD D tv K s.1 rep s' 0 K = tv (s.1 + 3) := by unfold nD; rw [if_pos rfl]; rfl
        have e1' : nD D tv K s.1 rep s' 1 K = if rep = true then tv (s.1 + 5) else 0 := by unfold nD; rw [if_pos rfl]; rfl
        have e2' : nD D tv K s.1 rep s' 2 K = if rep = true then tv (s.1 + 7) else 0 := by unfold nD; rw [if_pos rfl]; rfl
        have e3' : nD D tv K s.1 rep s' 3 K = s'.2.2.1 := by unfold nD; rw [if_pos rfl]; rfl
        have e4' : nD D tv K s.1 rep s' 4 K = s'.2.2.2.1 := by unfold nD; rw [if_pos rfl]; rfl
        have e5' : nD D tv K s.1 rep s' 5 K = oA s'.2.2.2.1 (D 5) s'.2.2.1 K := by unfold nD; rw [if_pos rfl]; rfl
        have e21 : nD D tv K s.1 rep s' 21 K = s'.2.1.length := by unfold nD; rw [if_pos rfl]; rfl
        refine ⟨?_, ?_, ⟨h89, h8p, hlen', ?_⟩, ⟨?_, ?_, p3, ?_, ?_, ?_, ?_, ?_⟩, ⟨?_, ?_⟩, ?_, ?_⟩
        · intro i hi
          rw [finA 3 (by decide) (by decide) (by decide) (by decide), finA 4 (by decide) (by decide) (by decide) (by decide), finA 5 (by decide) (by decide) (by decide) (by decide)]
          have q : gB (sA τA 8 (upd (gA τA 8) w (nI (K + 1)))) 6 = gB τ8 6 := by show gB τA 6 = _; rw [m2.2.2 6 (by decide), ← hs9b]; rfl
          rw [q]; exact hX8 i hi
        · intro k hk'
          rw [finB, finA 10 (by decide) (by decide) (by decide) (by decide), r10', updL_at, upd_at]
          show _ = mn (uN nt K (s.1 + 1) k) ∧ _
          rw [uN_at]
          by_cases q : k = K
          · rw [if_pos (show 7 * w + k = 7 * w + K by omega), if_pos (show 7 * w + k = 7 * w + K by omega), if_pos q, q, e1, ← hv2]
            refine ⟨rfl, ?_⟩
            unfold rpN
            by_cases qr : rep = true
            · rw [if_pos qr, if_pos qr, testBit_set, decide_eq_true rfl, Bool.or_true, if_pos rfl]
            · have hz : rp.testBit K = false := Nat.testBit_lt_two_pow hrp
              rw [if_neg qr, if_neg qr, hz]; rfl
          · have q3 : (rpN rp K rep).testBit k = rp.testBit k := by
              unfold rpN; split
              · rw [testBit_set, decide_eq_false (by omega : ¬ K = k), Bool.or_false]
              · rfl
            rw [if_neg (show ¬ 7 * w + k = 7 * w + K by omega), if_neg (show ¬ 7 * w + k = 7 * w + K by omega), if_neg q, q3]; exact hN k (by omega)
        · rw [if_neg (by omega), show K + 1 - 1 = K by omega, e21]
        · rw [fin]; exact p1
        · rw [fin]; exact p2
        · rw [fin]; exact p4
        · rw [fin]; exact p5
        · rw [fin]; exact p6
        · rw [gA_sA, if_pos rfl, upd_at, if_pos rfl]
        · rw [fin]; exact p10
        · rw [fin]; exact pg1
        · rw [finA 19 (by decide) (by decide) (by decide) (by decide), finA 20 (by decide) (by decide) (by decide) (by decide)]; exact pg2
        · unfold stc
          rw [finA 19 (by decide) (by decide) (by decide) (by decide), finA 20 (by decide) (by decide) (by decide) (by decide)]; exact pst
        · intro k hk'
          unfold mRw
          rw [finA 11 (by decide) (by decide) (by decide) (by decide), finA 12 (by decide) (by decide) (by decide) (by decide), finA 13 (by decide) (by decide) (by decide) (by decide), finA 14 (by decide) (by decide) (by decide) (by decide), finA 15 (by decide) (by decide) (by decide) (by decide), fin16, fin17, fin18, r11, r12, r13, r14, r15, upd_at, upd_at, upd_at, upd_at, upd_at, upd_at, upd_at, upd_at]
          by_cases q : k = K
          · rw [q]
            simp only [if_true]
            rw [e0', e1', e2', e3', e4', e5', e21, hv1, hv2', hv3, hlen2]
            refine ⟨⟨rfl, ?_, ?_⟩, ⟨rfl, rfl, rfl⟩, ?_, rfl⟩
            · split <;> rfl
            · split <;> rfl
            · by_cases q0 : K = 0
              · rw [if_pos q0, if_pos q0]
              · rw [if_neg q0, if_neg q0, hDK 21 (K - 1) (by omega)]
          · simp only [if_neg (show ¬ 7 * w + k = 7 * w + K by omega)]
            rw [hDK 0 k q, hDK 1 k q, hDK 2 k q, hDK 3 k q, hDK 4 k q, hDK 5 k q, hDK 21 k q, hDK 21 (k - 1) (by omega)]
            exact erow k (by omega)
