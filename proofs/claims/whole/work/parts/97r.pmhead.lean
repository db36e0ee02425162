/-! ===== PURE: read: a STEP's head, the reference ===== -/
def tG (σ : ST) : Option ST := if ix (gI σ 12) 2 then (if ix (gI σ 12) 2 then some (stA σ 8 (gI σ 12) ((ldA σ 8 (gI σ 12)) + ((1 : Int32)))) else none) else none
def tF (n : Nat) (x1 x2 : Int32) (σ : ST) : Option ST := if (gI σ 6) ≤ 0 then (if ix x2 403 then (if ix x1 14 then (lt (stB σ 9 x1 (ldB σ 6 x2)) (fun σ_48 => (if ix x1 14 then (lt (stA σ_48 16 x1 (gI σ_48 14)) (fun σ_50 => (if ix x1 14 then (lt (stA σ_50 17 x1 (gI σ_50 15)) (fun σ_52 => (if ix x1 14 then (lt (stA σ_52 18 x1 (gI σ_52 14)) (fun σ_54 => fX11_tell_L324 tG n x1 ((0 : Int32)) σ_54)) else none))) else none))) else none))) else none) else none) else some σ
def tE (n : Nat) (x1 x2 : Int32) (σ : ST) : Option ST := if ix x1 14 then (lt (stA σ 14 x1 (gI σ 13)) (fun σ_38 => (lt (sI σ_38 14 ((0 : Int32))) (fun σ_39 => (lt (sI σ_39 15 ((0 : Int32))) (fun σ_40 => (Option.bind (fX11_expression n σ_40) (fun q_41 => (if ix x1 14 then (lt (stA q_41 15 x1 (gI q_41 13)) (fun σ_43 => (Option.bind (fX11_must ((6 : Int32)) σ_43) (fun q_44 => tF n x1 x2 q_44)))) else none))))))))) else none
def tD2 (n : Nat) (x1 x2 : Int32) (σ : ST) : Option ST := if (gI σ 6) ≤ 0 then fX11_tell_L199 (tE n) n x1 x2 (((7 : Int32)) * (gI σ 12)) σ else some σ
def tD (n : Nat) (x1 x2 : Int32) (σ : ST) : Option ST := Option.bind (fX11_must ((4 : Int32)) σ) (fun q_24 => tD2 n x1 x2 q_24)
def tC (n : Nat) (x1 x2 : Int32) (σ : ST) : Option ST := if (ldA σ 10 x1) = 0 then tD n x1 x2 σ else (Option.bind (fX11_must ((23 : Int32)) σ) (fun q_70 => (Option.bind (fX11_inRange ((0 : Int32)) ((399 : Int32)) q_70) (fun q_71 => (if ix x1 14 then (lt (stA q_71.2 12 x1 q_71.1) (fun σ_73 => (Option.bind (fX11_must ((24 : Int32)) σ_73) (fun q_74 => (Option.bind (fX11_inRange ((0 : Int32)) ((100 : Int32)) q_74) (fun q_75 => (if ix x1 14 then (lt (stA q_75.2 13 x1 q_75.1) (fun σ_77 => tD n x1 x2 σ_77)) else none))))))) else none)))))
def tHd (n : Nat) (x1 x2 : Int32) (σ : ST) : Option ST := Option.bind (fX11_must ((1 : Int32)) σ) (fun q_11 => (Option.bind (fX11_must ((21 : Int32)) q_11) (fun q_12 => (Option.bind (fX11_inRange ((1 : Int32)) ((20 : Int32)) q_12) (fun q_13 => (if ix x1 14 then (lt (stA q_13.2 11 x1 q_13.1) (fun σ_15 => (if ix x1 14 then (lt (stA σ_15 12 x1 ((0 : Int32))) (fun σ_17 => (if ix x1 14 then (lt (stA σ_17 13 x1 ((0 : Int32))) (fun σ_19 => (if ix x1 14 then tC n x1 x2 σ_19 else none))) else none))) else none))) else none))))))
def tB (n : Nat) (σ : ST) : Option ST := if (gI σ 6) ≤ 0 then (if ix (gI σ 12) 2 then (lt ((((7 : Int32)) * (gI σ 12)) + (ldA σ 8 (gI σ 12))) (fun x1_5 => (Option.bind (fX11_is ((22 : Int32)) σ) (fun q_6 => (if ix x1_5 14 then (lt (stA q_6.2 10 x1_5 (nz q_6.1)) (fun σ_8 => (Option.bind (fX11_next σ_8) (fun q_9 => tHd n x1_5 (gI q_9 4) q_9)))) else none))))) else none) else some σ
def tA (n : Nat) (σ : ST) : Option ST := if ix (gI σ 12) 2 then (if (ldA σ 8 (gI σ 12)) = ((7 : Int32)) then (Option.bind (fX11_fail ((2 : Int32)) σ) (fun q_81 => tB n q_81)) else tB n σ) else none
theorem tell_eq (n : Nat) (σ : ST) : fX11_tell n σ = Option.bind (fX11_is ((20 : Int32)) σ) (fun q_1 => if q_1.1 = 0 then Option.bind (fX11_is ((22 : Int32)) q_1.2) (fun q_83 => if q_83.1 = 0 then Option.bind (fX11_fail ((1 : Int32)) q_83.2) (fun q_85 => tB n q_85) else tA n q_83.2) else tA n q_1.2) := rfl
def MRr (pl : Nat → Nat) (w K : Nat) (c19 c20 : Nat → Int32) (L : Nat) (S : List Nat) (r : Res) (τ : ST) : Prop :=
  match r with
  | .inl e => MF0 pl w c19 c20 e τ
  | .inr s => MS pl w K c19 c20 L s S 0 τ ∧ s.2.2.2.2.1 < 9 ∧ (s.2.2.2.2.1 ≠ 0 → s.2.2.2.2.2 < s.1)
theorem MRr_out {pl : Nat → Nat} {w K : Nat} {c19 c20 : Nat → Int32} {L : Nat} {S : List Nat} {r : Res} {τ τ' : ST} (f : fr [] [10, 11, 12, 13, 14, 15, 16, 17, 18] [9] τ τ') (h : MRr pl w K c19 c20 L S r τ) : MRr pl w K c19 c20 L S r τ' := by
  cases r with
  | inl e =>
    have h' : MF0 pl w c19 c20 e τ := h
    show MF0 pl w c19 c20 e τ'
    unfold MF0 stc at *
    rw [f.1 6 (by decide), f.1 7 (by decide), f.1 4 (by decide), f.1 12 (by decide), f.2.1 19 (by decide), f.2.1 20 (by decide)]; exact h'
  | inr s =>
    obtain ⟨h1, h2⟩ : MS pl w K c19 c20 L s S 0 τ ∧ _ := h
    refine ⟨?_, h2⟩
    unfold MS stc at *
    rw [f.1 6 (by decide), f.1 4 (by decide), f.1 8 (by decide), f.1 9 (by decide), f.1 12 (by decide), f.1 14 (by decide), f.1 15 (by decide), f.1 5 (by decide), f.1 13 (by decide), f.1 16 (by decide), f.2.1 8 (by decide), f.2.1 19 (by decide), f.2.1 20 (by decide), f.2.1 21 (by decide)]; exact h1
theorem mMustR {tk tv pl : Nat → Nat} {mn : Nat → Int64} {w K : Nat} {c19 c20 : Nat → Int32} {L k : Nat} {r : Res} {S : List Nat} {τ : ST} (hk : k < 29) (hk0 : k ≠ 0) (hk3 : k ≠ 3) (hT : TKs tk tv pl L) (hX : MTk tk tv pl mn L τ) (h : MRr pl w K c19 c20 L S r τ) : ∃ τ', fX11_must (nI k) τ = some τ' ∧ fr [4, 6, 7] [] [] τ τ' ∧ MRr pl w K c19 c20 L S (bS r (aAcc tk k)) τ' := by
  cases r with
  | inl e => exact ⟨τ, mMustF h _, fr_rf, h⟩
  | inr s =>
    obtain ⟨hM, h9, hsp⟩ := h
    obtain ⟨m1, m2⟩ := mMust hk hk0 hk3 hT hX hM
    cases hr : aAcc tk k s with
    | inl e =>
      obtain ⟨τ', a, b, c⟩ := m1 e hr
      refine ⟨τ', a, b, ?_⟩
      show MRr pl w K c19 c20 L S (aAcc tk k s) τ'
      rw [hr]; exact c.1
    | inr s' =>
      obtain ⟨τ', a, b, c⟩ := m2 s' hr
      refine ⟨τ', a, b, ?_⟩
      show MRr pl w K c19 c20 L S (aAcc tk k s) τ'
      have e := (aAcc_ok hr).2.2
      rw [hr]
      refine ⟨c, by rw [e]; exact h9, ?_⟩
      rw [e]
      exact fun z => Nat.lt_succ_of_lt (hsp z)
theorem aNote_9 {e : Nat} {s : PS} (he : e < 9) (h : s.2.2.2.2.1 < 9) : (aNote e s).2.2.2.2.1 < 9 := by
  unfold aNote; split
  · exact he
  · exact h
theorem aNote_p {e : Nat} {s : PS} (h : s.2.2.2.2.1 ≠ 0 → s.2.2.2.2.2 < s.1) (z : (aNote e s).2.2.2.2.1 ≠ 0) : (aNote e s).2.2.2.2.2 < s.1 + 1 := by
  unfold aNote at *
  by_cases c : s.2.2.2.2.1 = 0
  · rw [if_pos c]; exact Nat.lt_succ_self _
  · rw [if_neg c]; have := h c; omega
theorem mInRR {tk tv pl : Nat → Nat} {mn : Nat → Int64} {w K : Nat} {c19 c20 : Nat → Int32} {L lo hi : Nat} {r : Res} {S : List Nat} {τ : ST} (hlo : lo < 10000) (hhi : hi < 10000) (hT : TKs tk tv pl L) (hX : MTk tk tv pl mn L τ) (h : MRr pl w K c19 c20 L S r τ) : ∃ τ' v, fX11_inRange (nI lo) (nI hi) τ = some (v, τ') ∧ frM τ τ' ∧ MRr pl w K c19 c20 L S (bS r (aInt tk tv lo hi)) τ' ∧ ∀ s s', r = .inr s → aInt tk tv lo hi s = .inr s' → v = nI (tv s.1) := by
  cases r with
  | inl e => exact ⟨τ, 0, mInRF h _ _, fr_rf, h, fun s s' q => by cases q⟩
  | inr s =>
    obtain ⟨hM, h9, hsp⟩ := h
    obtain ⟨m1, m2⟩ := mInR hlo hhi hT hX hM h9 hsp
    cases hr : aInt tk tv lo hi s with
    | inl e =>
      obtain ⟨τ', a, b, c⟩ := m1 e hr
      refine ⟨τ', 0, a, b, ?_, fun s1 s' q1 q2 => ?_⟩
      · show MRr pl w K c19 c20 L S (aInt tk tv lo hi s) τ'
        rw [hr]; exact c.1
      · rw [← Sum.inr.inj q1, hr] at q2; cases q2
    | inr s' =>
      obtain ⟨τ', a, b, c⟩ := m2 s' hr
      refine ⟨τ', nI (tv s.1), a, b, ?_, fun s1 s2 q1 _ => by rw [← Sum.inr.inj q1]⟩
      show MRr pl w K c19 c20 L S (aInt tk tv lo hi s) τ'
      obtain ⟨-, -, i3, s0, h0, h1⟩ := aInt_ok hr
      rw [hr]
      refine ⟨c, ?_, fun z => ?_⟩
      · rw [h1]
        rcases h0 with rfl | rfl
        · exact h9
        · exact aNote_9 (by decide) h9
      · rw [h1] at z ⊢
        rcases h0 with rfl | rfl
        · exact Nat.lt_succ_of_lt (hsp z)
        · exact aNote_p hsp z
theorem upd_upd (f : Nat → Int32) (k : Nat) (x y : Int32) : upd (upd f k x) k y = upd f k y := by
  funext j
  rw [upd_at, upd_at, upd_at]
  by_cases c : j = k
  · rw [if_pos c, if_pos c]
  · rw [if_neg c, if_neg c, if_neg c]
def frH (τ τ' : ST) : Prop := fr [4, 5, 6, 7, 8, 9, 13, 14, 15, 16] [11, 12, 13, 19, 20, 21] [] τ τ'
theorem frH_up {I A B : List Nat} {τ τ' : ST} (f : fr I A B τ τ') (hI : ∀ k ∈ I, k ∈ [4, 5, 6, 7, 8, 9, 13, 14, 15, 16]) (hA : ∀ k ∈ A, k ∈ [11, 12, 13, 19, 20, 21]) (hB : ∀ k ∈ B, k ∈ ([] : List Nat)) : frH τ τ' := fr_up f hI hA hB
theorem MTk_H {tk tv pl : Nat → Nat} {mn : Nat → Int64} {L : Nat} {τ τ' : ST} (f : frH τ τ') (h : MTk tk tv pl mn L τ) : MTk tk tv pl mn L τ' := MTk_fr f h (by decide) (by decide) (by decide) (by decide)
theorem mHead {tk tv pl : Nat → Nat} {mn : Nat → Int64} {w K n : Nat} {c19 c20 : Nat → Int32} {L : Nat} {r : Res} {S : List Nat} {τ : ST} {rep : Bool} {x2 : Int32} (hw : w < 2) (hK : K < 7) (hT : TKs tk tv pl L) (hX : MTk tk tv pl mn L τ) (h : MRr pl w K c19 c20 L S r τ) (hrep : gA τ 10 (7 * w + K) = if rep = true then 1 else 0) :
    ∃ τ' v1 v2 v3, tHd n (nI (7 * w + K)) x2 τ = tD2 n (nI (7 * w + K)) x2 τ' ∧ frH τ τ' ∧ gA τ' 11 = upd (gA τ 11) (7 * w + K) v1 ∧ gA τ' 12 = upd (gA τ 12) (7 * w + K) v2 ∧ gA τ' 13 = upd (gA τ 13) (7 * w + K) v3 ∧ MRr pl w K c19 c20 L S (bS (bS r (aAcc tk 1)) (aTl tk tv rep)) τ' ∧
      ∀ s s', r = .inr s → bS (aAcc tk 1 s) (aTl tk tv rep) = .inr s' → v1 = nI (tv (s.1 + 2)) ∧ v2 = (if rep = true then nI (tv (s.1 + 4)) else 0) ∧ v3 = (if rep = true then nI (tv (s.1 + 6)) else 0) := by
  have i14 : ix (nI (7 * w + K)) 14 := ix_nI (show 7 * w + K < 14 by omega) (by decide)
  have b31 : 7 * w + K < 2 ^ 31 := by omega
  obtain ⟨τ1, a1, a2, a3⟩ := mMustR (k := 1) (by decide) (by decide) (by decide) hT hX h
  have f1 : frH τ τ1 := frH_up a2 (by decide) (by decide) (by decide)
  have hX1 := MTk_H f1 hX
  obtain ⟨τ2, b1, b2, b3⟩ := mMustR (k := 21) (by decide) (by decide) (by decide) hT hX1 a3
  have f2 : frH τ1 τ2 := frH_up b2 (by decide) (by decide) (by decide)
  have hX2 := MTk_H f2 hX1
  obtain ⟨τ3, v1, c1, c2, c3, c4⟩ := mInRR (lo := 1) (hi := 20) (by decide) (by decide) hT hX2 b3
  have f3 : frH τ2 τ3 := frH_up c2 (by decide) (by decide) (by decide)
  have hX3 := MTk_H f3 hX2
  unfold tHd
  rw [show (1 : Int32) = nI 1 from rfl, a1, Option.bind_some, show (21 : Int32) = nI 21 from rfl, b1, Option.bind_some, show (20 : Int32) = nI 20 from rfl, c1, Option.bind_some]
  simp only [if_pos i14, lt_def, stA_nI _ _ (7 * w + K) _ b31]
  generalize hs : sA (sA (sA τ3 11 (upd (gA τ3 11) (7 * w + K) v1)) 12 (upd (gA (sA τ3 11 (upd (gA τ3 11) (7 * w + K) v1)) 12) (7 * w + K) 0)) 13 (upd (gA (sA (sA τ3 11 (upd (gA τ3 11) (7 * w + K) v1)) 12 (upd (gA (sA τ3 11 (upd (gA τ3 11) (7 * w + K) v1)) 12) (7 * w + K) 0)) 13) (7 * w + K) 0) = τ4
  have f4 : frH τ3 τ4 := by rw [← hs]; exact fr_sA (fr_sA (fr_sA fr_rf (by decide)) (by decide)) (by decide)
  have f4' : fr [] [10, 11, 12, 13, 14, 15, 16, 17, 18] [9] τ3 τ4 := by rw [← hs]; exact fr_sA (fr_sA (fr_sA fr_rf (by decide)) (by decide)) (by decide)
  have hX4 := MTk_H f4 hX3
  have c3' := MRr_out f4' c3
  have g11 : gA τ4 11 = upd (gA τ 11) (7 * w + K) v1 := by rw [← hs]; show upd (gA τ3 11) _ v1 = _; rw [c2.2.1 11 (by decide), b2.2.1 11 (by decide), a2.2.1 11 (by decide)]
  have g12 : gA τ4 12 = upd (gA τ 12) (7 * w + K) 0 := by rw [← hs]; show upd (gA τ3 12) _ 0 = _; rw [c2.2.1 12 (by decide), b2.2.1 12 (by decide), a2.2.1 12 (by decide)]
  have g13 : gA τ4 13 = upd (gA τ 13) (7 * w + K) 0 := by rw [← hs]; show upd (gA τ3 13) _ 0 = _; rw [c2.2.1 13 (by decide), b2.2.1 13 (by decide), a2.2.1 13 (by decide)]
  have g10 : gA τ4 10 = gA τ 10 := by rw [← hs]; show gA τ3 10 = _; rw [c2.2.1 10 (by decide), b2.2.1 10 (by decide), a2.2.1 10 (by decide)]
  have f04 : frH τ τ4 := fr_tr f1 (fr_tr f2 (fr_tr f3 f4))
  unfold tC
  rw [ldA_nI _ 10 _ b31, g10, hrep]
  cases rep with
  | false =>
    rw [if_pos (show (if (false : Bool) = true then (1 : Int32) else 0) = 0 from rfl)]
    unfold tD
    obtain ⟨τ5, d1, d2, d3⟩ := mMustR (k := 4) (by decide) (by decide) (by decide) hT hX4 c3'
    have f5 : frH τ4 τ5 := frH_up d2 (by decide) (by decide) (by decide)
    rw [show (4 : Int32) = nI 4 from rfl, d1, Option.bind_some]
    refine ⟨τ5, v1, 0, 0, rfl, fr_tr f04 f5, (d2.2.1 11 (by decide)).trans g11, (d2.2.1 12 (by decide)).trans g12, (d2.2.1 13 (by decide)).trans g13, ?_, fun s s' hr hs' => ?_⟩
    · rw [aTl_f]; exact d3
    · obtain ⟨s1, y1, y2⟩ := bS_ok hs'
      obtain ⟨s3, y3, y4⟩ := bS_ok y2
      obtain ⟨s4, y5, y6⟩ := bS_ok y4
      have k1 := (kp_acc y1).2.1
      have k3 := (kp_acc y3).2.1
      have r4 := c4 s3 s4 (by rw [hr]; show bS (aAcc tk 1 s) (aAcc tk 21) = _; rw [y1]; exact y3) y5
      rw [show s3.1 = s.1 + 2 by omega] at r4
      exact ⟨r4, rfl, rfl⟩
  | true =>
    rw [if_neg (show ¬ (if (true : Bool) = true then (1 : Int32) else 0) = 0 from one_ne)]
    obtain ⟨τ5, d1, d2, d3⟩ := mMustR (k := 23) (by decide) (by decide) (by decide) hT hX4 c3'
    have f5 : frH τ4 τ5 := frH_up d2 (by decide) (by decide) (by decide)
    have hX5 := MTk_H f5 hX4
    obtain ⟨τ6, v2, e1, e2, e3, e4⟩ := mInRR (lo := 0) (hi := 399) (by decide) (by decide) hT hX5 d3
    have f6 : frH τ5 τ6 := frH_up e2 (by decide) (by decide) (by decide)
    have hX6 := MTk_H f6 hX5
    have e1' : fX11_inRange 0 399 τ5 = some (v2, τ6) := e1
    rw [show (23 : Int32) = nI 23 from rfl, d1, Option.bind_some, e1', Option.bind_some, if_pos i14, lt_def, stA_nI _ 12 _ _ b31]
    generalize hs7 : sA τ6 12 (upd (gA τ6 12) (7 * w + K) v2) = τ7
    have f7 : frH τ6 τ7 := by rw [← hs7]; exact fr_sA fr_rf (by decide)
    have f7' : fr [] [10, 11, 12, 13, 14, 15, 16, 17, 18] [9] τ6 τ7 := by rw [← hs7]; exact fr_sA fr_rf (by decide)
    have hX7 := MTk_H f7 hX6
    have e3' := MRr_out f7' e3
    obtain ⟨τ8, l1, l2, l3⟩ := mMustR (k := 24) (by decide) (by decide) (by decide) hT hX7 e3'
    have f8 : frH τ7 τ8 := frH_up l2 (by decide) (by decide) (by decide)
    have hX8 := MTk_H f8 hX7
    obtain ⟨τ9, v3, m1, m2, m3, m4⟩ := mInRR (lo := 0) (hi := 100) (by decide) (by decide) hT hX8 l3
    have f9 : frH τ8 τ9 := frH_up m2 (by decide) (by decide) (by decide)
    have hX9 := MTk_H f9 hX8
    have m1' : fX11_inRange 0 100 τ8 = some (v3, τ9) := m1
    rw [show (24 : Int32) = nI 24 from rfl, l1, Option.bind_some, m1', Option.bind_some, if_pos i14, lt_def, stA_nI _ 13 _ _ b31]
    generalize hsA : sA τ9 13 (upd (gA τ9 13) (7 * w + K) v3) = τA
    have fA : frH τ9 τA := by rw [← hsA]; exact fr_sA fr_rf (by decide)
    have fA' : fr [] [10, 11, 12, 13, 14, 15, 16, 17, 18] [9] τ9 τA := by rw [← hsA]; exact fr_sA fr_rf (by decide)
    have hXA := MTk_H fA hX9
    have m3' := MRr_out fA' m3
    unfold tD
    obtain ⟨τB, q1, q2, q3⟩ := mMustR (k := 4) (by decide) (by decide) (by decide) hT hXA m3'
    have fB : frH τA τB := frH_up q2 (by decide) (by decide) (by decide)
    rw [show (4 : Int32) = nI 4 from rfl, q1, Option.bind_some]
    have w11 : gA τB 11 = upd (gA τ 11) (7 * w + K) v1 := by rw [q2.2.1 11 (by decide), ← hsA]; show gA τ9 11 = _; rw [m2.2.1 11 (by decide), l2.2.1 11 (by decide), ← hs7]; show gA τ6 11 = _; rw [e2.2.1 11 (by decide), d2.2.1 11 (by decide), g11]
    have w12 : gA τB 12 = upd (gA τ 12) (7 * w + K) v2 := by rw [q2.2.1 12 (by decide), ← hsA]; show gA τ9 12 = _; rw [m2.2.1 12 (by decide), l2.2.1 12 (by decide), ← hs7]; show upd (gA τ6 12) _ v2 = _; rw [e2.2.1 12 (by decide), d2.2.1 12 (by decide), g12, upd_upd]
    have w13 : gA τB 13 = upd (gA τ 13) (7 * w + K) v3 := by rw [q2.2.1 13 (by decide), ← hsA]; show upd (gA τ9 13) _ v3 = _; rw [m2.2.1 13 (by decide), l2.2.1 13 (by decide), ← hs7]; show upd (gA τ6 13) _ v3 = _; rw [e2.2.1 13 (by decide), d2.2.1 13 (by decide), g13, upd_upd]
    refine ⟨τB, v1, v2, v3, rfl, fr_tr f04 (fr_tr f5 (fr_tr f6 (fr_tr f7 (fr_tr f8 (fr_tr f9 (fr_tr fA fB)))))), w11, w12, w13, ?_, fun s s' hr hs' => ?_⟩
    · rw [aTl_t]; exact q3
    · obtain ⟨s1, y1, y2⟩ := bS_ok hs'
      obtain ⟨s3, y3, y4⟩ := bS_ok y2
      obtain ⟨s4, y5, y6⟩ := bS_ok y4
      rw [if_pos rfl] at y6
      obtain ⟨s8, y7, y8⟩ := bS_ok y6
      obtain ⟨s5, y9, yA⟩ := bS_ok y7
      obtain ⟨s6, yB, yC⟩ := bS_ok yA
      obtain ⟨s7, yD, yE⟩ := bS_ok yC
      have k1 := (kp_acc y1).2.1
      have k3 := (kp_acc y3).2.1
      have k4 := (kp_int y5).2.1
      have k5 := (kp_acc y9).2.1
      have k6 := (kp_int yB).2.1
      have k7 := (kp_acc yD).2.1
      have p3 : bS (bS r (aAcc tk 1)) (aAcc tk 21) = .inr s3 := by rw [hr]; show bS (aAcc tk 1 s) (aAcc tk 21) = _; rw [y1]; exact y3
      have p4 : bS (bS (bS r (aAcc tk 1)) (aAcc tk 21)) (aInt tk tv 1 20) = .inr s4 := by rw [p3]; exact y5
      have p5 : bS (bS (bS (bS r (aAcc tk 1)) (aAcc tk 21)) (aInt tk tv 1 20)) (aAcc tk 23) = .inr s5 := by rw [p4]; exact y9
      have p6 : bS (bS (bS (bS (bS r (aAcc tk 1)) (aAcc tk 21)) (aInt tk tv 1 20)) (aAcc tk 23)) (aInt tk tv 0 399) = .inr s6 := by rw [p5]; exact yB
      have p7 : bS (bS (bS (bS (bS (bS r (aAcc tk 1)) (aAcc tk 21)) (aInt tk tv 1 20)) (aAcc tk 23)) (aInt tk tv 0 399)) (aAcc tk 24) = .inr s7 := by rw [p6]; exact yD
      have r4 := c4 s3 s4 p3 y5
      have r6 := e4 s5 s6 p5 yB
      have r8 := m4 s7 s8 p7 yE
      rw [show s3.1 = s.1 + 2 by omega] at r4
      rw [show s5.1 = s.1 + 4 by omega] at r6
      rw [show s7.1 = s.1 + 6 by omega] at r8
      exact ⟨r4, by rw [if_pos rfl]; exact r6, by rw [if_pos rfl]; exact r8⟩
