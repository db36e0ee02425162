/-! ===== PURE: read: names, brackets and tables, the reference ===== -/
def nt (e i : Nat) (s : PS) : PS := if s.2.2.2.2.1 = 0 then (s.1, s.2.1, s.2.2.1, s.2.2.2.1, e, i) else s
theorem nt_note (e : Nat) (s : PS) : aNote e s = nt e s.1 s := rfl
theorem mWrong {tk tv pl : Nat → Nat} {mn : Nat → Int64} {w K : Nat} {c19 c20 : Nat → Int32} {L o : Nat} {s : PS} {S : List Nat} {τ : ST} {e i : Nat} (he9 : e < 9) (hi : i ≤ L) (hT : TKs tk tv pl L) (hX : MTk tk tv pl mn L τ) (h : MS pl w K c19 c20 L s S o τ) (hsf : s.2.2.2.2.1 < 9) (hsi : s.2.2.2.2.1 ≠ 0 → s.2.2.2.2.2 < i) : ∃ τ', fX11_wrong (nI e) (nI i) τ = some τ' ∧ fr [8, 9] [] [] τ τ' ∧ MS pl w K c19 c20 L (nt e i s) S o τ' := by
  have hL := hT.1
  obtain ⟨⟨h1, h2, h3, h4, h5, h6, h7, h8, h9, h10⟩, g, k, st⟩ := id h
  unfold fX11_wrong nt
  rw [if_pos (ix_nI (show i < 403 by omega) (by decide)), ldA_nI _ 4 _ (by omega), (hX i hi).2.1, lt_def, h1, if_neg (show ¬ (0 : Int32) < 0 by decide), h4]
  by_cases z : s.2.2.2.2.1 = 0
  · rw [if_pos z, z, if_pos (show nI 0 = (0 : Int32) from rfl), lt_def, lt_def]
    exact ⟨_, rfl, fr_sI (fr_sI fr_rf (by decide)) (by decide), ⟨h1, h2, h3, rfl, fun _ => rfl, h6, h7, h8, h9, h10⟩, g, k, st⟩
  · have hz : ¬ nI s.2.2.2.2.1 = (0 : Int32) := fun q => z ((nI_eq (b := 0) (by omega) (by decide)).mp q)
    have hp := hT.2.2.2 _ _ (hsi z) hi
    have hb := (hT.2.2.1 i hi).2.1
    rw [if_neg z, if_neg hz, h5 z, if_pos (nI_lt hp (by omega))]
    exact ⟨τ, rfl, fr_rf, h⟩
def lkM (my : Nat → Int64) (rp : Nat) (w : Int64) : Nat → Nat → Nat
  | _, 0 => 0
  | k, d + 1 => if my k = w then (if rp.testBit k = true then 0 else k + 1) else lkM my rp w (k + 1) d
theorem lkM_le {my : Nat → Int64} {rp : Nat} {w : Int64} : ∀ d k, lkM my rp w k d ≤ k + d := by
  intro d
  induction d with
  | zero => intro k; exact Nat.zero_le _
  | succ d ih =>
    intro k
    rw [lkM]
    split
    · split <;> omega
    · have := ih (k + 1); omega
def NMm (my : Nat → Int64) (rp w K : Nat) (τ : ST) : Prop := ∀ k, k < K → gB τ 9 (7 * w + k) = my k ∧ gA τ 10 (7 * w + k) = if rp.testBit k = true then 1 else 0
theorem NMm_fr {my : Nat → Int64} {rp w K : Nat} {I A B : List Nat} {τ τ' : ST} (f : fr I A B τ τ') (h : NMm my rp w K τ) (h10 : 10 ∉ A) (h9 : 9 ∉ B) : NMm my rp w K τ' := by
  unfold NMm at *
  rw [f.2.1 10 h10, f.2.2 9 h9]; exact h
theorem mNamL {my : Nat → Int64} {rp w K t : Nat} {x : Int64} {τ : ST} (hw : w < 2) (hK : K < 7) (ht : t < 403) (h12 : gI τ 12 = nI w) (h8 : gA τ 8 w = nI K) (hx : gB τ 6 t = x) (hN : NMm my rp w K τ) (k42 : Int32 → Int32 → ST → Option ST) (k87 : Int32 → ST → Option ST) : ∀ d k n, k + d = K → d < n → (∃ p, k ≤ p ∧ p < K ∧ lkM my rp x k d = (if rp.testBit p = true then 0 else p + 1) ∧ fX11_named_L2 k42 k87 n (nI t) (nI k) τ = k42 (nI t) (nI p) τ) ∨ (lkM my rp x k d = 0 ∧ fX11_named_L2 k42 k87 n (nI t) (nI k) τ = k87 (nI t) τ) := by
  intro d
  induction d with
  | zero =>
    intro k n hk hn
    obtain ⟨m, rfl⟩ : ∃ m, n = m + 1 := ⟨n - 1, by omega⟩
    right
    refine ⟨rfl, ?_⟩
    rw [fX11_named_L2, h12, if_pos (ix_nI hw (by decide)), ldA_nI _ 8 w (by omega), h8, if_pos (nI_le (by omega) (by omega))]
  | succ d ih =>
    intro k n hk hn
    obtain ⟨m, rfl⟩ : ∃ m, n = m + 1 := ⟨n - 1, by omega⟩
    rw [fX11_named_L2, h12, if_pos (ix_nI hw (by decide)), ldA_nI _ 8 w (by omega), h8, if_neg (nI_ge (by omega) (by omega)), m7, if_pos (ix_nI (show 7 * w + k < 14 by omega) (by decide)), if_pos (ix_nI ht (by decide)), ldB_nI _ 9 _ (by omega), ldB_nI _ 6 _ (by omega), hx, (hN k (by omega)).1, lt_def, nI_1, lkM]
    by_cases c : my k = x
    · rw [if_pos ((lgc_eq _ _).mpr c), if_pos c]
      exact Or.inl ⟨k, Nat.le_refl _, by omega, rfl, rfl⟩
    · rw [if_neg (fun q => c ((lgc_eq _ _).mp q)), if_neg c]
      rcases ih (k + 1) m (by omega) (by omega) with ⟨p, p1, p2⟩ | p
      · exact Or.inl ⟨p, by omega, p2⟩
      · exact Or.inr p
theorem mNamed {tk tv pl : Nat → Nat} {mn my : Nat → Int64} {rp w K : Nat} {c19 c20 : Nat → Int32} {L o n : Nat} {s : PS} {S : List Nat} {τ : ST} (hn : 20 ≤ n) (hw : w < 2) (hK : K < 7) (hC : s.2.1.length < 450) (hT : TKs tk tv pl L) (hX : MTk tk tv pl mn L τ) (h : MS pl w K c19 c20 L s S o τ) (hN : NMm my rp w K τ) (hk : tk s.1 = 1) (hsf : s.2.2.2.2.1 < 9) (hsi : s.2.2.2.2.1 ≠ 0 → s.2.2.2.2.2 < s.1) : ∃ τ', fX11_named n (nI s.1) τ = some τ' ∧ frM τ τ' ∧ MS pl w K c19 c20 L (if lkM my rp (mn s.1) 0 K = 0 then aEm 0 0 (aNote 4 s) else aEm 4 (lkM my rp (mn s.1) 0 K - 1) (aPrt (lkM my rp (mn s.1) 0 K - 1) s)) S o τ' := by
  have hL := hT.1
  have h3 := h.1.2.2.1
  have bad : lkM my rp (mn s.1) 0 K = 0 → ∃ τ', Option.bind (fX11_wrong 4 (nI s.1) τ) (fun q_15 => Option.bind (fX11_emit 0 0 q_15) (fun q_16 => some q_16)) = some τ' ∧ frM τ τ' ∧ MS pl w K c19 c20 L (if lkM my rp (mn s.1) 0 K = 0 then aEm 0 0 (aNote 4 s) else aEm 4 (lkM my rp (mn s.1) 0 K - 1) (aPrt (lkM my rp (mn s.1) 0 K - 1) s)) S o τ' := by
    intro z
    obtain ⟨τ1, r1, r2, r3⟩ := mWrong (e := 4) (by decide) h3 hT hX h hsf hsi
    have hC1 : (nt 4 s.1 s).2.1.length < 480 := by unfold nt; split <;> (show s.2.1.length < 480; omega)
    obtain ⟨τ2, u1, u2, u3⟩ := mEmit (k := 0) (v := 0) hw hC1 r3
    rw [show (4 : Int32) = nI 4 from rfl, r1, Option.bind_some, show (0 : Int32) = nI 0 from rfl, u1, Option.bind_some, if_pos z, nt_note]
    exact ⟨τ2, rfl, fr_tr (frM_up r2 (by decide) (by decide) (by decide)) (frM_up u2 (by decide) (by decide) (by decide)), u3⟩
  unfold fX11_named
  rw [lt_def]
  rcases mNamL hw hK (show s.1 < 403 by omega) h.1.2.2.2.2.2.1 h.1.2.2.2.2.2.2.1 ((hX _ h3).2.2.2 hk) hN (fun (x1_8 : Int32) (x2_9 : Int32) (σ_10 : ST) => (if ix ((((7 : Int32)) * (gI σ_10 12)) + x2_9) 14 then (if (ldA σ_10 10 ((((7 : Int32)) * (gI σ_10 12)) + x2_9)) = 0 then (lt (sI σ_10 15 ((gI σ_10 15) ||| (((1 : Int32)) <<< (x2_9 &&& 31)))) (fun σ_13 => (Option.bind (fX11_emit ((4 : Int32)) x2_9 σ_13) (fun q_14 => (some q_14))))) else (Option.bind (fX11_wrong ((4 : Int32)) x1_8 σ_10) (fun q_15 => (Option.bind (fX11_emit ((0 : Int32)) ((0 : Int32)) q_15) (fun q_16 => (some q_16)))))) else none)) (fun (x1_17 : Int32) (σ_18 : ST) => (Option.bind (fX11_wrong ((4 : Int32)) x1_17 σ_18) (fun q_19 => (Option.bind (fX11_emit ((0 : Int32)) ((0 : Int32)) q_19) (fun q_20 => (some q_20)))))) K 0 n (by omega) (by omega) with ⟨p, p1, p2, p3, p4⟩ | ⟨z, p4⟩
  · have p4' : fX11_named_L2 (fun (x1_8 : Int32) (x2_9 : Int32) (σ_10 : ST) => (if ix ((((7 : Int32)) * (gI σ_10 12)) + x2_9) 14 then (if (ldA σ_10 10 ((((7 : Int32)) * (gI σ_10 12)) + x2_9)) = 0 then (lt (sI σ_10 15 ((gI σ_10 15) ||| (((1 : Int32)) <<< (x2_9 &&& 31)))) (fun σ_13 => (Option.bind (fX11_emit ((4 : Int32)) x2_9 σ_13) (fun q_14 => (some q_14))))) else (Option.bind (fX11_wrong ((4 : Int32)) x1_8 σ_10) (fun q_15 => (Option.bind (fX11_emit ((0 : Int32)) ((0 : Int32)) q_15) (fun q_16 => (some q_16)))))) else none)) (fun (x1_17 : Int32) (σ_18 : ST) => (Option.bind (fX11_wrong ((4 : Int32)) x1_17 σ_18) (fun q_19 => (Option.bind (fX11_emit ((0 : Int32)) ((0 : Int32)) q_19) (fun q_20 => (some q_20)))))) n (nI s.1) 0 τ = (if ix ((((7 : Int32)) * (gI τ 12)) + nI p) 14 then (if (ldA τ 10 ((((7 : Int32)) * (gI τ 12)) + nI p)) = 0 then (lt (sI τ 15 ((gI τ 15) ||| (((1 : Int32)) <<< (nI p &&& 31)))) (fun σ_13 => (Option.bind (fX11_emit ((4 : Int32)) (nI p) σ_13) (fun q_14 => (some q_14))))) else (Option.bind (fX11_wrong ((4 : Int32)) (nI s.1) τ) (fun q_15 => (Option.bind (fX11_emit 0 0 q_15) (fun q_16 => (some q_16)))))) else none) := p4
    rw [p4']
    rw [h.1.2.2.2.2.2.1, m7, if_pos (ix_nI (show 7 * w + p < 14 by omega) (by decide)), ldA_nI _ 10 _ (by omega), (hN p p2).2]
    by_cases c : rp.testBit p = true
    · rw [if_pos c] at p3
      rw [if_pos c, if_neg one_ne]
      exact bad p3
    · rw [if_neg c] at p3
      rw [if_neg c, if_pos rfl, lt_def, h.1.2.2.2.2.2.2.2.2.1, nI_shl1 (by omega), nI_or, p3, if_neg (by omega), Nat.add_sub_cancel]
      have f1 : frM τ (sI τ 15 (nI (s.2.2.2.1 ||| 2 ^ p))) := fr_sI fr_rf (by decide)
      have h1 : MS pl w K c19 c20 L (aPrt p s) S o (sI τ 15 (nI (s.2.2.2.1 ||| 2 ^ p))) := by
        obtain ⟨⟨h1, h2, h3, h4, h5, h6, h7, h8, h9, h10⟩, g, k, st⟩ := h
        exact ⟨⟨h1, h2, h3, h4, h5, h6, h7, h8, rfl, h10⟩, g, k, st⟩
      obtain ⟨τ2, u1, u2, u3⟩ := mEmit (k := 4) (v := p) hw (show (aPrt p s).2.1.length < 480 from by show s.2.1.length < 480; omega) h1
      rw [show (4 : Int32) = nI 4 from rfl, u1, Option.bind_some]
      exact ⟨τ2, rfl, fr_tr f1 (frM_up u2 (by decide) (by decide) (by decide)), u3⟩
  · have p4' : fX11_named_L2 (fun (x1_8 : Int32) (x2_9 : Int32) (σ_10 : ST) => (if ix ((((7 : Int32)) * (gI σ_10 12)) + x2_9) 14 then (if (ldA σ_10 10 ((((7 : Int32)) * (gI σ_10 12)) + x2_9)) = 0 then (lt (sI σ_10 15 ((gI σ_10 15) ||| (((1 : Int32)) <<< (x2_9 &&& 31)))) (fun σ_13 => (Option.bind (fX11_emit ((4 : Int32)) x2_9 σ_13) (fun q_14 => (some q_14))))) else (Option.bind (fX11_wrong ((4 : Int32)) x1_8 σ_10) (fun q_15 => (Option.bind (fX11_emit ((0 : Int32)) ((0 : Int32)) q_15) (fun q_16 => (some q_16)))))) else none)) (fun (x1_17 : Int32) (σ_18 : ST) => (Option.bind (fX11_wrong ((4 : Int32)) x1_17 σ_18) (fun q_19 => (Option.bind (fX11_emit ((0 : Int32)) ((0 : Int32)) q_19) (fun q_20 => (some q_20)))))) n (nI s.1) 0 τ = Option.bind (fX11_wrong ((4 : Int32)) (nI s.1) τ) (fun q_19 => (Option.bind (fX11_emit ((0 : Int32)) ((0 : Int32)) q_19) (fun q_20 => (some q_20)))) := p4
    rw [p4']
    exact bad z
/-- a bracket is opened; how = 0 for a table's -/
def psh (how : Nat) (S : List Nat) : List Nat := if how = 0 then S else how :: S
def hwI (how : Nat) : Int32 := if how = 0 then -1 else nI how
theorem mOpens {tk tv pl : Nat → Nat} {mn : Nat → Int64} {w K : Nat} {c19 c20 : Nat → Int32} {L d how : Nat} {s : PS} {S : List Nat} {τ : ST} (hd : d ≤ 6) (hh : how < 200) (hl : S.length < 60) (hT : TKs tk tv pl L) (hX : MTk tk tv pl mn L τ) (h : MS pl w K c19 c20 L s S d τ) : (∀ e, aOpn tk d s = .inl e → ∃ τ' S', fX11_opens (hwI how) τ = some τ' ∧ frM τ τ' ∧ (S' = S ∨ S' = psh how S) ∧ MFs pl w c19 c20 e s.2.1.length S' τ') ∧ (∀ s', aOpn tk d s = .inr s' → ∃ τ', fX11_opens (hwI how) τ = some τ' ∧ frM τ τ' ∧ MS pl w K c19 c20 L s' (psh how S) (d + 1) τ') := by
  have hL := hT.1
  have h3 := h.1.2.2.1
  have fail : ∀ (x : Nat) τ1, MFs pl w c19 c20 (x, s.1) s.2.1.length S τ1 → (if gI τ1 6 ≤ 0 then (lt (sI τ1 5 ((gI τ1 5) + ((1 : Int32)))) (fun σ_5 => (Option.bind (fX11_next σ_5) (fun q_6 => (if hwI how = ((-1 : Int32)) then (some q_6) else (if ix (gI q_6 16) 64 then (lt (stA q_6 21 (gI q_6 16) (hwI how)) (fun σ_9 => (lt (sI σ_9 16 ((gI σ_9 16) + ((1 : Int32)))) (fun σ_10 => (some σ_10))))) else none)))))) else some τ1) = some τ1 := fun x τ1 hf => by
    rw [hf.1.1, if_neg (fl_pos hf.1.2.1)]
  have e7 := mIsN hT hX h 7 (by decide)
  unfold fX11_opens
  rw [show (7 : Int32) = nI 7 from rfl, e7, Option.bind_some]
  simp only [lt_def, pif]
  simp only [lt_def] at fail
  by_cases c : tk s.1 = 7
  · rw [if_pos c, h.1.2.2.2.2.2.2.2.2.2]
    by_cases c6 : d = 6
    · rw [c6, if_pos (show nI 6 = (6 : Int32) from rfl)]
      obtain ⟨τ1, r1, r2, r3⟩ := mFailN (e := 2) (Or.inr rfl) hT hX h
      have ea : aOpn tk 6 s = .inl (2, s.1) := by unfold aOpn; rw [if_pos ⟨c, Nat.le_refl _⟩]
      rw [show (2 : Int32) = nI 2 from rfl, r1, Option.bind_some, fail 2 τ1 r3, ea]
      refine ⟨fun e he => ?_, fun s' he => by cases he⟩
      rw [← Sum.inl.inj he]
      exact ⟨τ1, S, rfl, frM_up r2 (by decide) (by decide) (by decide), Or.inl rfl, r3⟩
    · rw [if_neg (show ¬ nI d = (6 : Int32) from fun q => by rw [show (6 : Int32) = nI 6 from rfl, nI_eq (by omega) (by decide)] at q; exact c6 q), h.1.1, if_pos (show (0 : Int32) ≤ 0 by decide), nI_1]
      have ea : aOpn tk d s = aAcc tk 7 s := by unfold aOpn; rw [if_neg (by omega)]
      have f1 : frM τ (sI τ 5 (nI (d + 1))) := fr_sI fr_rf (by decide)
      have h1 : MS pl w K c19 c20 L s S (d + 1) (sI τ 5 (nI (d + 1))) := by
        obtain ⟨⟨h1, h2, h3, h4, h5, h6, h7, h8, h9, h10⟩, g, k, st⟩ := h
        exact ⟨⟨h1, h2, h3, h4, h5, h6, h7, h8, h9, rfl⟩, g, k, st⟩
      have hX1 : MTk tk tv pl mn L (sI τ 5 (nI (d + 1))) := hX
      obtain ⟨n1, n2⟩ := mNextN hT hX1 h1 (by omega) (by omega)
      rw [ea]
      unfold aAcc
      rw [if_pos c]
      -- what is pushed
      have pushN : ∀ τ2, stk S τ2 → ∃ τ3, (if hwI how = ((-1 : Int32)) then (some τ2) else (if ix (gI τ2 16) 64 then (some (sI (stA τ2 21 (gI τ2 16) (hwI how)) 16 ((gI (stA τ2 21 (gI τ2 16) (hwI how)) 16) + ((1 : Int32))))) else none)) = some τ3 ∧ fr [16] [21] [] τ2 τ3 ∧ stk (psh how S) τ3 := by
        intro τ2 hk
        unfold hwI psh
        by_cases z : how = 0
        · rw [if_pos z, if_pos z, if_pos rfl]
          exact ⟨τ2, rfl, fr_rf, hk⟩
        · rw [if_neg z, if_neg z, if_neg (nI_ne_m1 (by omega)), hk.1, if_pos (ix_nI (show S.length < 64 by omega) (by decide)), stA_nI τ2 21 _ _ (by omega), gI_sA, hk.1, nI_1]
          exact ⟨_, rfl, fr_sI (fr_sA fr_rf (by decide)) (by decide), stk_push hk (by omega)⟩
      by_cases c4 : s.1 = 400
      · rw [if_pos c4]
        obtain ⟨τ2, u1, u2, u3⟩ := n2 c4
        obtain ⟨τ3, v1, v2, v3⟩ := pushN τ2 u3.2.2
        rw [u1, Option.bind_some]
        refine ⟨fun e he => ?_, fun s' he => by cases he⟩
        rw [← Sum.inl.inj he]
        exact ⟨τ3, psh how S, v1, fr_tr f1 (fr_tr (frM_up u2 (by decide) (by decide) (by decide)) (frM_up v2 (by decide) (by decide) (by decide))), Or.inr rfl, MFs_stk u3 v2 v3⟩
      · rw [if_neg c4]
        obtain ⟨u1, u2⟩ := n1 c4
        obtain ⟨τ3, v1, v2, v3⟩ := pushN (sI (sI τ 5 (nI (d + 1))) 4 (nI (s.1 + 1))) u2.2.2.1
        rw [u1, Option.bind_some]
        refine ⟨fun e he => (by cases he), fun s' he => ?_⟩
        rw [← Sum.inr.inj he]
        have f2 : frM (sI τ 5 (nI (d + 1))) (sI (sI τ 5 (nI (d + 1))) 4 (nI (s.1 + 1))) := fr_sI fr_rf (by decide)
        exact ⟨τ3, v1, fr_tr f1 (fr_tr f2 (frM_up v2 (by decide) (by decide) (by decide))), MS_stk u2 v2 v3⟩
  · rw [if_neg c]
    obtain ⟨τ1, r1, r2, r3⟩ := mFailN (e := 1) (Or.inl rfl) hT hX h
    have ea : aOpn tk d s = .inl (1, s.1) := by unfold aOpn aAcc; rw [if_neg (fun z => c z.1), if_neg c]
    rw [show (1 : Int32) = nI 1 from rfl, r1, Option.bind_some]
    have := fail 1 τ1 r3
    rw [show (1 : Int32) = nI 1 from rfl] at this
    rw [this, ea]
    refine ⟨fun e he => ?_, fun s' he => by cases he⟩
    rw [← Sum.inl.inj he]
    exact ⟨τ1, S, rfl, frM_up r2 (by decide) (by decide) (by decide), Or.inl rfl, r3⟩
/-- must -/
theorem mMust {tk tv pl : Nat → Nat} {mn : Nat → Int64} {w K : Nat} {c19 c20 : Nat → Int32} {L o k : Nat} {s : PS} {S : List Nat} {τ : ST} (hk : k < 29) (hk0 : k ≠ 0) (hk3 : k ≠ 3) (hT : TKs tk tv pl L) (hX : MTk tk tv pl mn L τ) (h : MS pl w K c19 c20 L s S o τ) : (∀ e, aAcc tk k s = .inl e → ∃ τ', fX11_must (nI k) τ = some τ' ∧ fr [4, 6, 7] [] [] τ τ' ∧ MFs pl w c19 c20 e s.2.1.length S τ') ∧ (∀ s', aAcc tk k s = .inr s' → ∃ τ', fX11_must (nI k) τ = some τ' ∧ fr [4, 6, 7] [] [] τ τ' ∧ MS pl w K c19 c20 L s' S o τ') := by
  unfold fX11_must aAcc
  rw [mIsN hT hX h k hk, Option.bind_some]
  simp only [pif]
  by_cases c : tk s.1 = k
  · rw [if_pos c, if_pos c]
    obtain ⟨n1, n2⟩ := mNextN hT hX h (by omega) (by omega)
    by_cases c4 : s.1 = 400
    · rw [if_pos c4]
      obtain ⟨τ2, u1, u2, u3⟩ := n2 c4
      rw [u1, Option.bind_some]
      refine ⟨fun e he => ?_, fun s' he => by cases he⟩
      rw [← Sum.inl.inj he]
      exact ⟨τ2, rfl, fr_up u2 (by decide) (by decide) (by decide), u3⟩
    · rw [if_neg c4]
      obtain ⟨u1, u2⟩ := n1 c4
      rw [u1, Option.bind_some]
      refine ⟨fun e he => (by cases he), fun s' he => ?_⟩
      rw [← Sum.inr.inj he]
      exact ⟨_, rfl, fr_sI fr_rf (by decide), u2⟩
  · rw [if_neg c, if_neg c]
    obtain ⟨τ1, r1, r2, r3⟩ := mFailN (e := 1) (Or.inl rfl) hT hX h
    rw [show (1 : Int32) = nI 1 from rfl, r1, Option.bind_some]
    refine ⟨fun e he => ?_, fun s' he => by cases he⟩
    rw [← Sum.inl.inj he]
    exact ⟨τ1, rfl, fr_up r2 (by decide) (by decide) (by decide), r3⟩
theorem mMustF {pl : Nat → Nat} {w : Nat} {c19 c20 : Nat → Int32} {e : Nat × Nat} {τ : ST} (h : MF0 pl w c19 c20 e τ) (x : Int32) : fX11_must x τ = some τ := by
  unfold fX11_must
  rw [mIsF h, Option.bind_some]
  simp only [if_true]
  rw [mFailF h, Option.bind_some]
theorem mInR {tk tv pl : Nat → Nat} {mn : Nat → Int64} {w K : Nat} {c19 c20 : Nat → Int32} {L o lo hi : Nat} {s : PS} {S : List Nat} {τ : ST} (hlo : lo < 10000) (hhi : hi < 10000) (hT : TKs tk tv pl L) (hX : MTk tk tv pl mn L τ) (h : MS pl w K c19 c20 L s S o τ) (hsf : s.2.2.2.2.1 < 9) (hsi : s.2.2.2.2.1 ≠ 0 → s.2.2.2.2.2 < s.1) : (∀ e, aInt tk tv lo hi s = .inl e → ∃ τ', fX11_inRange (nI lo) (nI hi) τ = some (0, τ') ∧ frM τ τ' ∧ MFs pl w c19 c20 e s.2.1.length S τ') ∧ (∀ s', aInt tk tv lo hi s = .inr s' → ∃ τ', fX11_inRange (nI lo) (nI hi) τ = some (nI (tv s.1), τ') ∧ frM τ τ' ∧ MS pl w K c19 c20 L s' S o τ') := by
  have hL := hT.1
  have h3 := h.1.2.2.1
  obtain ⟨m1, m2⟩ := mMust (k := 2) (by decide) (by decide) (by decide) hT hX h
  have i403 : ix (nI s.1) 403 := ix_nI (show s.1 < 403 by omega) (by decide)
  unfold fX11_inRange
  rw [lt_def, h.1.2.1]
  cases ha : aAcc tk 2 s with
  | inl e =>
    obtain ⟨τ1, r1, r2, r3⟩ := m1 e ha
    rw [show (2 : Int32) = nI 2 from rfl, r1, Option.bind_some, r3.1.1, if_neg (fl_pos r3.1.2.1)]
    -- with or without the note the fault is the same
    have e2 : aInt tk tv lo hi s = .inl e := by
      unfold aInt
      by_cases b : tk s.1 = 2 ∧ (tv s.1 < lo ∨ hi < tv s.1)
      · rw [if_pos b]
        unfold aAcc at ha ⊢
        rw [aNote_t]
        rw [if_pos b.1] at ha ⊢
        by_cases c4 : s.1 = 400
        · rw [if_pos c4] at ha ⊢; exact ha
        · rw [if_neg c4] at ha; cases ha
      · rw [if_neg b]; exact ha
    rw [e2]
    refine ⟨fun e' he => ?_, fun s' he => by cases he⟩
    rw [← Sum.inl.inj he]
    exact ⟨τ1, rfl, frM_up r2 (by decide) (by decide) (by decide), r3⟩
  | inr s1 =>
    obtain ⟨a1, a2, a3⟩ := aAcc_ok ha
    obtain ⟨τ1, r1, r2, r3⟩ := m2 s1 ha
    have f1 := frM_up r2 (by decide) (by decide) (by decide)
    have hX1 := MTk_fr r2 hX (by decide) (by decide) (by decide) (by decide)
    have e5 : gA τ1 5 s.1 = nI (tv s.1) := (hX1 _ h3).2.2.1 a1
    have hv := (hT.2.2.1 _ h3).2.2 a1
    rw [show (2 : Int32) = nI 2 from rfl, r1, Option.bind_some, r3.1.1, if_pos (show (0 : Int32) ≤ 0 by decide), if_pos i403]
    simp only [lt_def, if_pos i403, ldA_nI _ _ s.1 (show s.1 < 2 ^ 31 by omega), e5]
    by_cases b : tv s.1 < lo ∨ hi < tv s.1
    · have ei : aInt tk tv lo hi s = .inr (s.1 + 1, (aNote 5 s).2) := by
        unfold aInt
        rw [if_pos ⟨a1, b⟩]
        unfold aAcc
        rw [aNote_t, if_pos a1, if_neg a2]
      rw [a3] at r3
      obtain ⟨τ2, u1, u2, u3⟩ := mWrong (e := 5) (i := s.1) (by decide) h3 hT hX1 r3 hsf hsi
      have hX2 := MTk_fr u2 hX1 (by decide) (by decide) (by decide) (by decide)
      have e5' : gA τ2 5 s.1 = nI (tv s.1) := (hX2 _ h3).2.2.1 a1
      have es : nt 5 s.1 (s.1 + 1, s.2) = (s.1 + 1, (aNote 5 s).2) := by
        unfold nt aNote
        by_cases z : s.2.2.2.2.1 = 0
        · rw [if_pos z, if_pos z]
        · rw [if_neg z, if_neg z]
      rw [es] at u3
      have body : ∃ τ', Option.bind (fX11_wrong 5 (nI s.1) τ1) (fun q_7 => some (gA q_7 5 s.1, q_7)) = some (nI (tv s.1), τ') ∧ frM τ τ' ∧ MS pl w K c19 c20 L (s.1 + 1, (aNote 5 s).2) S o τ' := by
        rw [show (5 : Int32) = nI 5 from rfl, u1, Option.bind_some, e5']
        exact ⟨τ2, rfl, fr_tr f1 (frM_up u2 (by decide) (by decide) (by decide)), u3⟩
      rw [ei]
      refine ⟨fun e he => (by cases he), fun s' he => ?_⟩
      rw [← Sum.inr.inj he]
      by_cases b1 : tv s.1 < lo
      · rw [if_pos (nI_lt b1 (by omega))]
        exact body
      · rw [if_neg (fun q => b1 ((nI_lt_iff (by omega) (by omega)).mp q)), if_neg (nI_ge (by omega) (by omega))]
        exact body
    · have ei : aInt tk tv lo hi s = .inr s1 := by
        unfold aInt
        rw [if_neg (fun z => b z.2)]; exact ha
      rw [ei, if_neg (fun q => b (Or.inl ((nI_lt_iff (by omega) (by omega)).mp q))), if_pos (nI_le (by omega) (by omega))]
      refine ⟨fun e he => (by cases he), fun s' he => ?_⟩
      rw [← Sum.inr.inj he]
      exact ⟨τ1, rfl, f1, r3⟩
