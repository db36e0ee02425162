/-! ===== PURE: read: a NAME told twice; the head's order, the reference ===== -/
def wr (e i : Nat) (s : PS) : PS := if s.2.2.2.2.1 ≠ 0 ∧ (s.2.2.2.2.2 < i ∨ (s.2.2.2.2.2 = i ∧ s.2.2.2.2.1 ≤ e)) then s else (s.1, s.2.1, s.2.2.1, s.2.2.2.1, e, i)
theorem wr_id {e i : Nat} {s : PS} (he : e ≠ 0) : wr e i (wr e i s) = wr e i s := by
  by_cases c : s.2.2.2.2.1 ≠ 0 ∧ (s.2.2.2.2.2 < i ∨ (s.2.2.2.2.2 = i ∧ s.2.2.2.2.1 ≤ e))
  · have h : wr e i s = s := by unfold wr; rw [if_pos c]
    rw [h, h]
  · have h : wr e i s = (s.1, s.2.1, s.2.2.1, s.2.2.2.1, e, i) := by unfold wr; rw [if_neg c]
    rw [h]
    unfold wr
    rw [if_pos ⟨he, Or.inr ⟨rfl, Nat.le_refl _⟩⟩]
theorem wr_9 {e i : Nat} {s : PS} (he : e < 9) (h : s.2.2.2.2.1 < 9) : (wr e i s).2.2.2.2.1 < 9 := by
  unfold wr; split
  · exact h
  · exact he
theorem wr_p {e i B : Nat} {s : PS} (hi : i ≤ B) (h : s.2.2.2.2.1 ≠ 0 → s.2.2.2.2.2 ≤ B) (z : (wr e i s).2.2.2.2.1 ≠ 0) : (wr e i s).2.2.2.2.2 ≤ B := by
  by_cases c : s.2.2.2.2.1 ≠ 0 ∧ (s.2.2.2.2.2 < i ∨ (s.2.2.2.2.2 = i ∧ s.2.2.2.2.1 ≤ e))
  · have q : wr e i s = s := by unfold wr; rw [if_pos c]
    rw [q]; exact h c.1
  · have q : wr e i s = (s.1, s.2.1, s.2.2.1, s.2.2.2.1, e, i) := by unfold wr; rw [if_neg c]
    rw [q]; exact hi
theorem mWr {tk tv pl : Nat → Nat} {mn : Nat → Int64} {w K : Nat} {c19 c20 : Nat → Int32} {L o : Nat} {s : PS} {S : List Nat} {τ : ST} {e i : Nat} (he9 : e < 9) (hi : i ≤ L) (hT : TKs tk tv pl L) (hX : MTk tk tv pl mn L τ) (h : MS pl w K c19 c20 L s S o τ) (hsf : s.2.2.2.2.1 < 9) (hsi : s.2.2.2.2.1 ≠ 0 → s.2.2.2.2.2 ≤ L) : ∃ τ', fX11_wrong (nI e) (nI i) τ = some τ' ∧ fr [8, 9] [] [] τ τ' ∧ MS pl w K c19 c20 L (wr e i s) S o τ' := by
  have hL := hT.1
  obtain ⟨⟨h1, h2, h3, h4, h5, h6, h7, h8, h9, h10⟩, g, k, st⟩ := id h
  unfold fX11_wrong
  rw [if_pos (ix_nI (show i < 403 by omega) (by decide)), ldA_nI _ 4 _ (by omega), (hX i hi).2.1, lt_def, h1, if_neg (show ¬ (0 : Int32) < 0 by decide), h4]
  have set : ¬ (s.2.2.2.2.1 ≠ 0 ∧ (s.2.2.2.2.2 < i ∨ (s.2.2.2.2.2 = i ∧ s.2.2.2.2.1 ≤ e))) → ∃ τ', lt (sI τ 8 (nI e)) (fun σ_5 => lt (sI σ_5 9 (nI (pl i))) (fun σ_6 => some σ_6)) = some τ' ∧ fr [8, 9] [] [] τ τ' ∧ MS pl w K c19 c20 L (wr e i s) S o τ' := by
    intro c
    have q : wr e i s = (s.1, s.2.1, s.2.2.1, s.2.2.2.1, e, i) := by unfold wr; rw [if_neg c]
    rw [lt_def, lt_def, q]
    exact ⟨_, rfl, fr_sI (fr_sI fr_rf (by decide)) (by decide), ⟨h1, h2, h3, rfl, fun _ => rfl, h6, h7, h8, h9, h10⟩, g, k, st⟩
  have keep : (s.2.2.2.2.1 ≠ 0 ∧ (s.2.2.2.2.2 < i ∨ (s.2.2.2.2.2 = i ∧ s.2.2.2.2.1 ≤ e))) → ∃ τ', some τ = some τ' ∧ fr [8, 9] [] [] τ τ' ∧ MS pl w K c19 c20 L (wr e i s) S o τ' := by
    intro c
    have q : wr e i s = s := by unfold wr; rw [if_pos c]
    rw [q]; exact ⟨τ, rfl, fr_rf, h⟩
  have hb := (hT.2.2.1 i hi).2.1
  by_cases z : s.2.2.2.2.1 = 0
  · rw [z, if_pos (show nI 0 = (0 : Int32) from rfl)]
    exact set (fun q => q.1 z)
  · have hz : ¬ nI s.2.2.2.2.1 = (0 : Int32) := fun q => z ((nI_eq (b := 0) (by omega) (by decide)).mp q)
    have hb2 := (hT.2.2.1 _ (hsi z)).2.1
    rw [if_neg hz, h5 z]
    rcases Nat.lt_trichotomy s.2.2.2.2.2 i with y | y | y
    · rw [if_pos (nI_lt (hT.2.2.2 _ _ y hi) (by omega))]
      exact keep ⟨z, Or.inl y⟩
    · rw [y, if_neg (nI_nlt (Nat.le_refl _) (by omega)), if_pos rfl]
      by_cases q : e < s.2.2.2.2.1
      · rw [if_pos (nI_lt q (by omega))]
        exact set (fun c => by have := c.2; omega)
      · rw [if_neg (nI_nlt (by omega) (by omega))]
        exact keep ⟨z, Or.inr ⟨y, by omega⟩⟩
    · have hp := hT.2.2.2 _ _ y (hsi z)
      rw [if_neg (nI_nlt (by omega) (by omega)), if_neg (fun q => by have := (nI_eq (by omega) (by omega)).mp q; omega)]
      exact set (fun c => by have := c.2; omega)
def twB (my : Nat → Int64) (x : Int64) : Nat → Nat → Bool
  | _, 0 => false
  | k, d + 1 => decide (my k = x) || twB my x (k + 1) d
theorem twB_iff {my : Nat → Int64} {x : Int64} : ∀ d k, twB my x k d = true ↔ ∃ j, k ≤ j ∧ j < k + d ∧ my j = x := by
  intro d
  induction d with
  | zero =>
    intro k
    constructor
    · intro h; cases h
    · rintro ⟨j, a, b, -⟩; omega
  | succ d ih =>
    intro k
    rw [twB, Bool.or_eq_true, decide_eq_true_eq, ih]
    constructor
    · rintro (a | ⟨j, a, b, c⟩)
      · exact ⟨k, Nat.le_refl k, by omega, a⟩
      · exact ⟨j, by omega, by omega, c⟩
    · rintro ⟨j, a, b, c⟩
      by_cases q : j = k
      · rw [q] at c; exact Or.inl c
      · exact Or.inr ⟨j, by omega, by omega, c⟩
theorem mTwL {tk tv pl : Nat → Nat} {mn my : Nat → Int64} {rp w K : Nat} {c19 c20 : Nat → Int32} {L t : Nat} {S : List Nat} {x : Int64} (hw : w < 2) (hK : K < 7) (hT : TKs tk tv pl L) (ht : t ≤ L) (kk : Int32 → Int32 → ST → Option ST) : ∀ d k n s τ, k + d = K → d < n → MTk tk tv pl mn L τ → NMm my rp w K τ → gB τ 6 t = x → MS pl w K c19 c20 L s S 0 τ → s.2.2.2.2.1 < 9 → (s.2.2.2.2.1 ≠ 0 → s.2.2.2.2.2 ≤ L) →
    ∃ τ', fX11_tell_L199 kk n (nI (7 * w + K)) (nI t) (nI (7 * w + k)) τ = kk (nI (7 * w + K)) (nI t) τ' ∧ fr [8, 9] [] [] τ τ' ∧ MS pl w K c19 c20 L (if twB my x k d = true then wr 3 t s else s) S 0 τ' := by
  have hL := hT.1
  intro d
  induction d with
  | zero =>
    intro k n s τ hk hn hX hN hx hM h9 hp
    obtain ⟨m, rfl⟩ : ∃ m, n = m + 1 := ⟨n - 1, by omega⟩
    rw [fX11_tell_L199, if_pos (nI_le (by omega) (by omega))]
    exact ⟨τ, rfl, fr_rf, hM⟩
  | succ d ih =>
    intro k n s τ hk hn hX hN hx hM h9 hp
    obtain ⟨m, rfl⟩ : ∃ m, n = m + 1 := ⟨n - 1, by omega⟩
    rw [fX11_tell_L199, if_neg (nI_ge (by omega) (by omega)), if_pos (ix_nI (show 7 * w + k < 14 by omega) (by decide)), if_pos (ix_nI (show t < 403 by omega) (by decide)), ldB_nI _ 9 _ (by omega), ldB_nI _ 6 _ (by omega), hx, (hN k (by omega)).1]
    simp only [lt_def, nI_1]
    by_cases c : my k = x
    · rw [if_pos ((lgc_eq _ _).mpr c)]
      obtain ⟨τ1, a1, a2, a3⟩ := mWr (e := 3) (by decide) ht hT hX hM h9 hp
      rw [show (3 : Int32) = nI 3 from rfl, a1, Option.bind_some]
      obtain ⟨τ2, b1, b2, b3⟩ := ih (k + 1) m (wr 3 t s) τ1 (by omega) (by omega) (MTk_fr a2 hX (by decide) (by decide) (by decide) (by decide)) (NMm_fr a2 hN (by decide) (by decide)) (by rw [a2.2.2 6 (by decide)]; exact hx) a3 (wr_9 (by decide) h9) (wr_p ht hp)
      refine ⟨τ2, b1, fr_tr a2 b2, ?_⟩
      have e : twB my x k (d + 1) = true := by rw [twB, decide_eq_true c]; rfl
      rw [if_pos e]
      rw [wr_id (by decide)] at b3
      by_cases q : twB my x (k + 1) d = true
      · rw [if_pos q] at b3; exact b3
      · rw [if_neg q] at b3; exact b3
    · rw [if_neg (fun q => c ((lgc_eq _ _).mp q))]
      obtain ⟨τ2, b1, b2, b3⟩ := ih (k + 1) m s τ (by omega) (by omega) hX hN hx hM h9 hp
      refine ⟨τ2, b1, b2, ?_⟩
      have e : twB my x k (d + 1) = twB my x (k + 1) d := by rw [twB, decide_eq_false c]; rfl
      rw [e]; exact b3
def mp (g : PS → PS) (r : Res) : Res :=
  match r with
  | .inl e => .inl e
  | .inr s => .inr (g s)
def wS (p : Nat × Nat) (s : PS) : PS := (s.1, s.2.1, s.2.2.1, s.2.2.2.1, p)
def wT (x y : Nat) (s : PS) : PS := (s.1, s.2.1, x, y, s.2.2.2.2)
theorem acc_wS (tk : Nat → Nat) (p : Nat × Nat) (k : Nat) (s : PS) : aAcc tk k (wS p s) = mp (wS p) (aAcc tk k s) := by
  unfold aAcc
  show (if tk s.1 = k then (if s.1 = 400 then (Sum.inl (2, s.1) : Res) else .inr (s.1 + 1, (wS p s).2)) else .inl (1, s.1)) = _
  by_cases c : tk s.1 = k
  · rw [if_pos c, if_pos c]
    by_cases c4 : s.1 = 400
    · rw [if_pos c4, if_pos c4]; rfl
    · rw [if_neg c4, if_neg c4]; rfl
  · rw [if_neg c, if_neg c]; rfl
theorem acc_wT (tk : Nat → Nat) (x y : Nat) (k : Nat) (s : PS) : aAcc tk k (wT x y s) = mp (wT x y) (aAcc tk k s) := by
  unfold aAcc
  show (if tk s.1 = k then (if s.1 = 400 then (Sum.inl (2, s.1) : Res) else .inr (s.1 + 1, (wT x y s).2)) else .inl (1, s.1)) = _
  by_cases c : tk s.1 = k
  · rw [if_pos c, if_pos c]
    by_cases c4 : s.1 = 400
    · rw [if_pos c4, if_pos c4]; rfl
    · rw [if_neg c4, if_neg c4]; rfl
  · rw [if_neg c, if_neg c]; rfl
theorem int_wS (tk tv : Nat → Nat) {p : Nat × Nat} (hp : p.1 ≠ 0) (lo hi : Nat) (s : PS) : aInt tk tv lo hi (wS p s) = mp (wS p) (aInt tk tv lo hi s) := by
  have e : aNote 5 (wS p s) = wS p (aNote 5 s) := by
    unfold aNote
    rw [if_neg (show ¬ (wS p s).2.2.2.2.1 = 0 from hp)]
    split <;> rfl
  unfold aInt
  show aAcc tk 2 (if tk s.1 = 2 ∧ (tv s.1 < lo ∨ hi < tv s.1) then aNote 5 (wS p s) else wS p s) = _
  by_cases c : tk s.1 = 2 ∧ (tv s.1 < lo ∨ hi < tv s.1)
  · rw [if_pos c, if_pos c, e, acc_wS]
  · rw [if_neg c, if_neg c, acc_wS]
theorem int_wT (tk tv : Nat → Nat) (x y lo hi : Nat) (s : PS) : aInt tk tv lo hi (wT x y s) = mp (wT x y) (aInt tk tv lo hi s) := by
  have e : aNote 5 (wT x y s) = wT x y (aNote 5 s) := by
    unfold aNote
    by_cases c : s.2.2.2.2.1 = 0
    · rw [if_pos c, if_pos (show (wT x y s).2.2.2.2.1 = 0 from c)]; rfl
    · rw [if_neg c, if_neg (show ¬ (wT x y s).2.2.2.2.1 = 0 from c)]
  unfold aInt
  show aAcc tk 2 (if tk s.1 = 2 ∧ (tv s.1 < lo ∨ hi < tv s.1) then aNote 5 (wT x y s) else wT x y s) = _
  by_cases c : tk s.1 = 2 ∧ (tv s.1 < lo ∨ hi < tv s.1)
  · rw [if_pos c, if_pos c, e, acc_wT]
  · rw [if_neg c, if_neg c, acc_wT]
theorem bS_mp {g : PS → PS} {f : PS → Res} (h : ∀ s, f (g s) = mp g (f s)) (r : Res) : bS (mp g r) f = mp g (bS r f) := by
  cases r with
  | inl e => rfl
  | inr s => exact h s
theorem tl_mp {tk tv : Nat → Nat} {g : PS → PS} (ha : ∀ k s, aAcc tk k (g s) = mp g (aAcc tk k s)) (hi : ∀ lo hi s, aInt tk tv lo hi (g s) = mp g (aInt tk tv lo hi s)) (rep : Bool) (r : Res) : bS (mp g r) (aTl tk tv rep) = mp g (bS r (aTl tk tv rep)) := by
  cases rep with
  | false => rw [aTl_f, aTl_f, bS_mp (ha 21), bS_mp (hi 1 20), bS_mp (ha 4)]
  | true => rw [aTl_t, aTl_t, bS_mp (ha 21), bS_mp (hi 1 20), bS_mp (ha 23), bS_mp (hi 0 399), bS_mp (ha 24), bS_mp (hi 0 100), bS_mp (ha 4)]
/-- faults of sense in a head come behind -/
def kq (s s' : PS) : Prop := s.1 ≤ s'.1 ∧ (s.2.2.2.2.1 ≠ 0 → s'.2.2.2.2 = s.2.2.2.2) ∧ (s.2.2.2.2.1 = 0 → s'.2.2.2.2.1 = 0 ∨ s.1 ≤ s'.2.2.2.2.2)
theorem kq_rf (s : PS) : kq s s := ⟨Nat.le_refl _, fun _ => rfl, fun h => Or.inl h⟩
theorem kq_tr {a b c : PS} (h1 : kq a b) (h2 : kq b c) : kq a c := by
  refine ⟨Nat.le_trans h1.1 h2.1, fun z => ?_, fun z => ?_⟩
  · have e := h1.2.1 z
    exact (h2.2.1 (by rw [e]; exact z)).trans e
  · by_cases q : b.2.2.2.2.1 = 0
    · rcases h2.2.2 q with y | y
      · exact Or.inl y
      · exact Or.inr (Nat.le_trans h1.1 y)
    · have e := h2.2.1 q
      rcases h1.2.2 z with y | y
      · exact absurd y q
      · right; rw [e]; exact y
theorem kq_acc {tk : Nat → Nat} {k : Nat} {s s' : PS} (h : aAcc tk k s = .inr s') : kq s s' := by
  rw [(aAcc_ok h).2.2]
  exact ⟨Nat.le_succ _, fun _ => rfl, fun h => Or.inl h⟩
theorem kq_int {tk tv : Nat → Nat} {lo hi : Nat} {s s' : PS} (h : aInt tk tv lo hi s = .inr s') : kq s s' := by
  obtain ⟨-, -, -, s0, h0, h1⟩ := aInt_ok h
  rw [h1]
  rcases h0 with rfl | rfl
  · exact ⟨Nat.le_succ _, fun _ => rfl, fun h => Or.inl h⟩
  · refine ⟨Nat.le_succ _, fun z => ?_, fun z => ?_⟩
    · show (aNote 5 s).2.2.2.2 = _
      unfold aNote; rw [if_neg z]
    · right
      show s.1 ≤ (aNote 5 s).2.2.2.2.2
      unfold aNote; rw [if_pos z]; exact Nat.le_refl _
theorem kq_tl {tk tv : Nat → Nat} {rep : Bool} {s s' : PS} (h : aTl tk tv rep s = .inr s') : kq s s' := by
  obtain ⟨s3, y3, y4⟩ := bS_ok h
  obtain ⟨s4, y5, y6⟩ := bS_ok y4
  obtain ⟨s8, y7, y8⟩ := bS_ok y6
  have a8 : kq s4 s8 := by
    cases rep with
    | false =>
      have y7' : (Sum.inr s4 : Res) = .inr s8 := y7
      obtain rfl := Sum.inr.inj y7'
      exact kq_rf _
    | true =>
      have y7' : bS (aAcc tk 23 s4) (fun s5 => bS (aInt tk tv 0 399 s5) (fun s6 => bS (aAcc tk 24 s6) (aInt tk tv 0 100))) = .inr s8 := y7
      obtain ⟨s5, z1, z2⟩ := bS_ok y7'
      obtain ⟨s6, z3, z4⟩ := bS_ok z2
      obtain ⟨s7, z5, z6⟩ := bS_ok z4
      exact kq_tr (kq_acc z1) (kq_tr (kq_int z3) (kq_tr (kq_acc z5) (kq_int z6)))
  exact kq_tr (kq_acc y3) (kq_tr (kq_int y5) (kq_tr a8 (kq_acc y8)))
theorem head_eq {tk tv : Nat → Nat} {tw : Nat → Bool} {rep : Bool} {s1 : PS} (hp : s1.2.2.2.2.1 ≠ 0 → s1.2.2.2.2.2 < s1.1) : (∀ e, bS (aAcc tk 1 s1) (aTl tk tv rep) = .inl e → bS (aNm tk tw s1) (aTl tk tv rep) = .inl e) ∧ (∀ s9, bS (aAcc tk 1 s1) (aTl tk tv rep) = .inr s9 → bS (aNm tk tw s1) (aTl tk tv rep) = .inr (if tw s1.1 = true then wr 3 s1.1 s9 else s9)) := by
  by_cases c : tk s1.1 = 1 ∧ tw s1.1 = true
  · have en : aNm tk tw s1 = aAcc tk 1 (aNote 3 s1) := by unfold aNm; rw [if_pos c]
    by_cases z : s1.2.2.2.2.1 = 0
    · have e3 : aNote 3 s1 = wS (3, s1.1) s1 := by unfold aNote; rw [if_pos z]; rfl
      have ea : bS (aNm tk tw s1) (aTl tk tv rep) = mp (wS (3, s1.1)) (bS (aAcc tk 1 s1) (aTl tk tv rep)) := by
        rw [en, e3, acc_wS, tl_mp (acc_wS tk (3, s1.1)) (int_wS tk tv (p := (3, s1.1)) (show 3 ≠ 0 by decide))]
      refine ⟨fun e he => by rw [ea, he]; rfl, fun s9 hs => ?_⟩
      rw [ea, hs, if_pos c.2]
      show (Sum.inr (wS (3, s1.1) s9) : Res) = _
      obtain ⟨s2, y1, y2⟩ := bS_ok hs
      have k1 := (aAcc_ok y1).2.2
      have k2 := kq_tl y2
      have hz : s2.2.2.2.2.1 = 0 := by rw [k1]; exact z
      have h2 : s2.1 = s1.1 + 1 := by rw [k1]
      unfold wr
      rw [if_neg (fun q => by
        rcases k2.2.2 hz with y | y
        · exact q.1 y
        · have := q.2; omega)]
      rfl
    · have e3 : aNote 3 s1 = s1 := by unfold aNote; rw [if_neg z]
      rw [en, e3]
      refine ⟨fun e he => he, fun s9 hs => ?_⟩
      rw [hs, if_pos c.2]
      obtain ⟨s2, y1, y2⟩ := bS_ok hs
      have k1 := (aAcc_ok y1).2.2
      have k2 := kq_tl y2
      have z2 : s2.2.2.2.2.1 ≠ 0 := by rw [k1]; exact z
      have e9 : s9.2.2.2.2 = s1.2.2.2.2 := by rw [k2.2.1 z2, k1]
      unfold wr
      rw [if_pos ⟨by rw [e9]; exact z, Or.inl (by rw [e9]; exact hp z)⟩]
  · have en : aNm tk tw s1 = aAcc tk 1 s1 := by unfold aNm; rw [if_neg c]
    rw [en]
    refine ⟨fun e he => he, fun s9 hs => ?_⟩
    obtain ⟨s2, y1, y2⟩ := bS_ok hs
    rw [hs, if_neg (fun q => c ⟨(aAcc_ok y1).1, q⟩)]
theorem wr_wT (e i x y : Nat) (s : PS) : wr e i (wT x y s) = wT x y (wr e i s) := by
  by_cases c : s.2.2.2.2.1 ≠ 0 ∧ (s.2.2.2.2.2 < i ∨ (s.2.2.2.2.2 = i ∧ s.2.2.2.2.1 ≤ e))
  · have h : wr e i s = s := by unfold wr; rw [if_pos c]
    rw [h]
    unfold wr
    exact if_pos c
  · have h : wr e i s = (s.1, s.2.1, s.2.2.1, s.2.2.2.1, e, i) := by unfold wr; rw [if_neg c]
    rw [h]
    unfold wr
    exact if_neg c
theorem nI_any (v : Int32) : nI v.toBitVec.toNat = v := by
  apply Int32.toBitVec_inj.mp
  rw [nI_bv]
  apply BitVec.eq_of_toNat_eq
  rw [BitVec.toNat_ofNat]
  exact Nat.mod_eq_of_lt (BitVec.isLt _)
theorem stk_any (τ : ST) : ∃ S, stk S τ := by
  refine ⟨List.map (fun i => (gA τ 21 ((gI τ 16).toBitVec.toNat - 1 - i)).toBitVec.toNat) (List.range (gI τ 16).toBitVec.toNat), ?_, fun j hj => ?_⟩
  · rw [List.length_map, List.length_range, nI_any]
  · rw [List.length_map, List.length_range] at hj ⊢
    rw [List.getD_eq_getElem?_getD, List.getElem?_map, List.getElem?_range (by omega)]
    show _ = nI (gA τ 21 ((gI τ 16).toBitVec.toNat - 1 - ((gI τ 16).toBitVec.toNat - 1 - j))).toBitVec.toNat
    rw [nI_any, show (gI τ 16).toBitVec.toNat - 1 - ((gI τ 16).toBitVec.toNat - 1 - j) = j by omega]
theorem mExpr {tk tv pl lk : Nat → Nat} {mn my : Nat → Int64} {rp w K n f : Nat} {c19 c20 : Nat → Int32} {L : Nat} {s : PS} {r : Res} {τ : ST} (hT : TKs tk tv pl L) (hw : w < 2) (hK : K < 7) (hlkM : ∀ i, i ≤ L → tk i = 1 → lk i = lkM my rp (mn i) 0 K) (hlk : ∀ i, tk i = 1 → lk i ≤ K) (htv : ∀ i, tk i = 2 → tv i < 10000) (hn : 1200 ≤ n) (hZ : MZ tk tv pl mn my rp w K c19 c20 L s (sI τ 16 0)) (hM : MS pl w K c19 c20 L s [] 0 (sI τ 16 0)) (hr : ev tk tv lk f 3 0 s = some r) : ∃ τ', fX11_expression n τ = some τ' ∧ frM τ τ' ∧ MRr pl w K c19 c20 L [] r τ' := by
  have hL := hT.1
  obtain ⟨-, -, -, hS, -⟩ := mEv (c19 := c19) (c20 := c20) hT hw hK hlkM hlk htv n (by omega) f
  have f0 : frM τ (sI τ 16 0) := fr_sI fr_rf (by decide)
  have hh := hS 0 [] n s r (sI τ 16 0) (by omega) (Or.inl rfl) (Nat.le_refl _) (by omega) hZ hM hr
  rw [mEx_eq]
  cases r with
  | inl e =>
    obtain ⟨τ', a, b, c⟩ := hh.1 e rfl
    exact ⟨τ', a, fr_tr f0 b, c⟩
  | inr s' =>
    obtain ⟨n', m', τ1, P, C, a, b, c1, c2, c3, c4, c5, c6, t9, t10, t11⟩ := hh.2 s' rfl
    have hs' : s'.1 ≤ L := c4.1.2.2.1
    obtain ⟨cd, v1, -, -⟩ := ev_inv (tk := tk) (tv := tv) (lk := lk) (K := K) (by omega) htv hlk f 3 0 s s' hr
    have hZ1 := MZ_next hZ v1 b
    obtain ⟨m, rfl⟩ : ∃ m, m' = m + 1 := ⟨m' - 1, by omega⟩
    have hl : (P ++ ([] : List Nat)).length < 60 := by rw [List.append_nil]; omega
    have hc : C.length + P.length < 450 := by
      have e1 := congrArg List.length c3
      rw [List.length_append, pnd_len] at e1
      have := hZ1.2.2.2.2
      omega
    have ex := mB_exit (s := wC s' C) (n := n') (m := m) (by omega) (by omega) hT hZ1.1 (Or.inl rfl) c1 hl c4 t9 t10 t11 (fun _ => ⟨(by show ¬ ((-1 : Int32) = 7); decide), (by show ¬ ((-1 : Int32) = 102); decide)⟩) (fun _ => (by show ¬ ((-1 : Int32) = 100); decide)) (mKF n)
    obtain ⟨τ2, d1, d2, d3⟩ := (mKF_N (n := n) hw (by omega) hT hZ1.1 (Or.inl rfl) c1 hl hc c4).1 rfl
    rw [a, ex, d1]
    have es : wC s' (C ++ pnd P) = s' := by unfold wC; rw [← c3]
    rw [es] at d3
    exact ⟨τ2, rfl, fr_tr f0 (fr_tr b d2), d3, hZ1.2.2.1, hZ1.2.2.2.1⟩
