/-! ===== PURE: read: the class's words and TOKENS ===== -/
theorem key_iff {v : Nat → Nat} {p n : Nat} (h : ∀ i, i < n → bW (v (p + i)) = true) (l : List Nat) (hl : l.length ≤ 6) (hb : ∀ i, i < l.length → bW (l.getD (0 + i) 0) = true) {X M : Nat} (hX : wX8 (fun i => l.getD i 0) 0 l.length = X) (hM : wM8 (fun i => l.getD i 0) 0 l.length = M) : wX8 v p n = X ↔ (n ≤ 6 ∧ wM8 v p n = M) := by
  have e := wd_eq (v := v) (v' := fun i => l.getD i 0) (p := p) (p' := 0) (n := n) (n' := l.length) h hb
  rw [hX, hM] at e
  constructor
  · intro q
    have q' : bw 256 (fun i => v (p + i)) n = bw 256 (fun i => l.getD (0 + i) 0) l.length := q.trans hX.symm
    have r1 : ∀ {c : Nat}, bW c = true → 1 ≤ c ∧ c < 256 := fun q => by rw [bW_iff] at q; omega
    have := (bw_inj n l.length (fun i hi => r1 (h i hi)) (fun i hi => r1 (hb i hi)) q').1
    exact ⟨by omega, e.mp q⟩
  · intro q; exact e.mpr q.2
theorem xKind {v : Nat → Nat} {p n : Nat} (hn : n ≤ 8) (hv : ∀ i, v i < 256) (h : ∀ i, i < n → bW (v (p + i)) = true) (σ : ST) : fX7_kindOfWord (lN (wX8 v p n)) σ = some (nI (kx (wk v p n)), σ) := by
  have hlt := wX8_lt (p := p) hn hv
  have tst : ∀ X : Nat, X < 2 ^ 64 → ((lg_cmp (lN (wX8 v p n)) (lN X) = 0) ↔ wX8 v p n = X) := fun X hx => (lgc_eq _ _).trans ⟨fun q => lN_inj hlt hx q, fun q => by rw [q]⟩
  have t20 : (lg_cmp (lN (wX8 v p n)) (1885434484 : Int64) = 0) ↔ (n ≤ 6 ∧ wM8 v p n = 812503) := (tst 1885434484 (by decide)).trans (key_iff h [112, 97, 114, 116] (by decide) (by decide) (by decide) (by decide))
  have t22 : (lg_cmp (lN (wX8 v p n)) (125780003615348 : Int64) = 0) ↔ (n ≤ 6 ∧ wM8 v p n = 1258393700) := (tst 125780003615348 (by decide)).trans (key_iff h [114, 101, 112, 111, 114, 116] (by decide) (by decide) (by decide) (by decide))
  have t21 : (lg_cmp (lN (wX8 v p n)) (499850634611 : Int64) = 0) ↔ (n ≤ 6 ∧ wM8 v p n = 37549136) := (tst 499850634611 (by decide)).trans (key_iff h [116, 97, 107, 101, 115] (by decide) (by decide) (by decide) (by decide))
  have t23 : (lg_cmp (lN (wX8 v p n)) (6583653 : Int64) = 0) ↔ (n ≤ 6 ∧ wM8 v p n = 6258) := (tst 6583653 (by decide)).trans (key_iff h [100, 117, 101] (by decide) (by decide) (by decide) (by decide))
  have t24 : (lg_cmp (lN (wX8 v p n)) (131277443786868 : Int64) = 0) ↔ (n ≤ 6 ∧ wM8 v p n = 1604747592) := (tst 131277443786868 (by decide)).trans (key_iff h [119, 101, 105, 103, 104, 116] (by decide) (by decide) (by decide) (by decide))
  have t25 : (lg_cmp (lN (wX8 v p n)) (7566701 : Int64) = 0) ↔ (n ≤ 6 ∧ wM8 v p n = 26801) := (tst 7566701 (by decide)).trans (key_iff h [115, 117, 109] (by decide) (by decide) (by decide) (by decide))
  have t26 : (lg_cmp (lN (wX8 v p n)) (427071729268 : Int64) = 0) ↔ (n ≤ 6 ∧ wM8 v p n = 6411565) := (tst 427071729268 (by decide)).trans (key_iff h [99, 111, 117, 110, 116] (by decide) (by decide) (by decide) (by decide))
  have t27 : (lg_cmp (lN (wX8 v p n)) (1836020596 : Int64) = 0) ↔ (n ≤ 6 ∧ wM8 v p n = 679747) := (tst 1836020596 (by decide)).trans (key_iff h [109, 111, 115, 116] (by decide) (by decide) (by decide) (by decide))
  have t28 : (lg_cmp (lN (wX8 v p n)) (7168376 : Int64) = 0) ↔ (n ≤ 6 ∧ wM8 v p n = 17858) := (tst 7168376 (by decide)).trans (key_iff h [109, 97, 120] (by decide) (by decide) (by decide) (by decide))
  unfold fX7_kindOfWord
  have ew : wk v p n = if n ≤ 6 then kw (wM8 v p n) else 1 := by unfold wk; rw [if_pos hn]
  by_cases h6 : n ≤ 6
  · rw [ew, if_pos h6]
    generalize hm : wM8 v p n = m at t20 t22 t21 t23 t24 t25 t26 t27 t28
    by_cases c20 : m = 812503
    · rw [if_pos (t20.mpr ⟨h6, c20⟩), c20]; rfl
    · rw [if_neg (fun q => c20 (t20.mp q).2)]
      by_cases c22 : m = 1258393700
      · rw [if_pos (t22.mpr ⟨h6, c22⟩), c22]; rfl
      · rw [if_neg (fun q => c22 (t22.mp q).2)]
        by_cases c21 : m = 37549136
        · rw [if_pos (t21.mpr ⟨h6, c21⟩), c21]; rfl
        · rw [if_neg (fun q => c21 (t21.mp q).2)]
          by_cases c23 : m = 6258
          · rw [if_pos (t23.mpr ⟨h6, c23⟩), c23]; rfl
          · rw [if_neg (fun q => c23 (t23.mp q).2)]
            by_cases c24 : m = 1604747592
            · rw [if_pos (t24.mpr ⟨h6, c24⟩), c24]; rfl
            · rw [if_neg (fun q => c24 (t24.mp q).2)]
              by_cases c25 : m = 26801
              · rw [if_pos (t25.mpr ⟨h6, c25⟩), c25]; rfl
              · rw [if_neg (fun q => c25 (t25.mp q).2)]
                by_cases c26 : m = 6411565
                · rw [if_pos (t26.mpr ⟨h6, c26⟩), c26]; rfl
                · rw [if_neg (fun q => c26 (t26.mp q).2)]
                  by_cases c27 : m = 679747
                  · rw [if_pos (t27.mpr ⟨h6, c27⟩), c27]; rfl
                  · rw [if_neg (fun q => c27 (t27.mp q).2)]
                    by_cases c28 : m = 17858
                    · rw [if_pos (t28.mpr ⟨h6, c28⟩), c28]; rfl
                    · rw [if_neg (fun q => c28 (t28.mp q).2)]
                      have e1 : kw m = 1 := by unfold kw; rw [if_neg c20, if_neg c21, if_neg c22, if_neg c23, if_neg c24, if_neg c25, if_neg c26, if_neg c27, if_neg c28]
                      rw [e1]; rfl
  · rw [ew, if_neg h6, if_neg (fun q => h6 (t20.mp q).1), if_neg (fun q => h6 (t22.mp q).1), if_neg (fun q => h6 (t21.mp q).1), if_neg (fun q => h6 (t23.mp q).1), if_neg (fun q => h6 (t24.mp q).1), if_neg (fun q => h6 (t25.mp q).1), if_neg (fun q => h6 (t26.mp q).1), if_neg (fun q => h6 (t27.mp q).1), if_neg (fun q => h6 (t28.mp q).1)]; rfl
theorem xTok {v : Nat → Nat} {ln p n : Nat} {σ : ST} (hn : 3000 < n) (hp : p ≤ ln) (hX : XTp v ln σ) (h1 : gI σ 1 = nI p) : ∃ σ', fX7_scanToken n σ = some (nI (kx (tkAt v ln p)), σ') ∧ fr [1] [] [] σ σ' ∧ gI σ' 1 = nI (teAt v ln p) ∧ (tkAt v ln p = 2 → gL σ' 0 = lN (tvAt v ln p)) ∧ (tkAt v ln p = 1 → gL σ' 0 = xnAt v ln p) := by
  have hl := hX.2.1
  have hv := hX.2.2.1
  have f0 : fr [1] [] [] σ (sL σ 0 0) := fr_sL fr_rf
  have hX0 : XTp v ln (sL σ 0 0) := XTp_fr f0 hX (by decide) (by decide)
  have h10 : gI (sL σ 0 0) 1 = nI p := h1
  unfold fX7_scanToken
  rw [lt_def, h10]
  by_cases c : p < ln
  · rw [xByte hX0 c, Option.bind_some]
    simp only [lt_def]
    rw [if_neg (nI_ne_m1 (by have := hv p; omega)), xLe (hv p), Option.bind_some]
    by_cases l : bL (v p) = true
    · simp only [if_pos l, if_neg one_ne]
      unfold fX7_scanWord
      rw [lt_def, h10]
      have g := en_ge bW v ln p
      have gl := en_le (P := bW) (v := v) hp
      obtain ⟨σ', a, b, e1, e2⟩ := xWrdL (k := fun (x1_14 : Int32) (σ_15 : ST) => (if ((gI σ_15 1) - x1_14) ≤ ((8 : Int32)) then (Option.bind (fX7_kindOfWord (gL σ_15 0) σ_15) (fun q_17 => (some (q_17.1, q_17.2)))) else (some ((259 : Int32), σ_15)))) (x1 := nI p) hp (en bW v ln p - p) 0 n (sL σ 0 0) rfl g (by omega) hX0 h10 rfl
      rw [a]
      have et : tkAt v ln p = wk v p (en bW v ln p - p) := by unfold tkAt; rw [if_pos c, if_pos l]
      have ee : teAt v ln p = en bW v ln p := by unfold teAt; rw [if_pos c, if_pos l]
      have hz : ∀ i, i < en bW v ln p - p → bW (v (p + i)) = true := fun i hi => (en_all (P := bW) (v := v) (ln := ln) (p := p) (i := p + i) (by omega) (by omega)).2
      rw [e1, pk_sub g]
      by_cases q : en bW v ln p - p ≤ 8
      · rw [if_pos (show nI (en bW v ln p - p) ≤ (8 : Int32) from nI_le q (by decide)), e2]
        have kk : fX7_kindOfWord (xnAt v ln p) σ' = some (nI (kx (wk v p (en bW v ln p - p))), σ') := xKind q hv hz σ'
        rw [kk, Option.bind_some, Option.bind_some, et, ee]
        exact ⟨σ', rfl, fr_tr f0 b, e1, fun z => absurd z (wk_lt _ _ _).2.2, fun _ => e2⟩
      · rw [if_neg (show ¬ nI (en bW v ln p - p) ≤ (8 : Int32) from fun z => by rw [show (8 : Int32) = nI 8 from rfl, nI_le_iff (by omega) (by decide)] at z; omega), Option.bind_some, et, ee]
        have e3 : wk v p (en bW v ln p - p) = 3 := by unfold wk; rw [if_neg q]
        rw [e3]
        exact ⟨σ', rfl, fr_tr f0 b, e1, fun z => (by cases z), fun z => (by cases z)⟩
    · simp only [if_neg l, if_true]
      rw [xDi (hv p), Option.bind_some]
      by_cases d : bD (v p) = true
      · simp only [if_pos d, if_neg one_ne]
        unfold fX7_scanNumber
        rw [lt_def, h10]
        have g := en_ge bD v ln p
        have gl := en_le (P := bD) (v := v) hp
        obtain ⟨σ', a, b, e1, e2⟩ := xNumL (k := fun (x1_9 : Int32) (σ_10 : ST) => (if ((gI σ_10 1) - x1_9) ≤ ((4 : Int32)) then (some ((257 : Int32), σ_10)) else (some ((259 : Int32), σ_10)))) (x1 := nI p) hp (en bD v ln p - p) 0 n (sL σ 0 0) rfl g (by omega) hX0 h10 rfl
        rw [a]
        have et : tkAt v ln p = if en bD v ln p - p ≤ 4 then 2 else 3 := by unfold tkAt; rw [if_pos c, if_neg l, if_pos d]
        have ee : teAt v ln p = en bD v ln p := by unfold teAt; rw [if_pos c, if_neg l, if_pos d]
        rw [e1, pk_sub g]
        by_cases q : en bD v ln p - p ≤ 4
        · rw [if_pos (show nI (en bD v ln p - p) ≤ (4 : Int32) from nI_le q (by decide)), Option.bind_some, et, ee, if_pos q]
          exact ⟨σ', rfl, fr_tr f0 b, e1, fun _ => e2, fun z => (by cases z)⟩
        · rw [if_neg (show ¬ nI (en bD v ln p - p) ≤ (4 : Int32) from fun z => by rw [show (4 : Int32) = nI 4 from rfl, nI_le_iff (by omega) (by decide)] at z; omega), Option.bind_some, et, ee, if_neg q]
          exact ⟨σ', rfl, fr_tr f0 b, e1, fun z => (by cases z), fun z => (by cases z)⟩
      · simp only [if_neg d, if_true]
        rw [h10, nI_1, xSi (hv p), Option.bind_some]
        have et : tkAt v ln p = sg (v p) := by unfold tkAt; rw [if_pos c, if_neg l, if_neg d]
        have ee : teAt v ln p = p + 1 := by unfold teAt; rw [if_pos c, if_neg l, if_neg d]
        have ks := sg_kx ⟨v p, hv p⟩
        have f1 : fr [1] [] [] σ (sI (sL σ 0 0) 1 (nI (p + 1))) := fr_sI f0 (by decide)
        rw [et, ee]
        refine ⟨sI (sL σ 0 0) 1 (nI (p + 1)), ?_, f1, rfl, fun z => absurd z (sg_lt _).2.2.2, fun z => absurd z (sg_lt _).2.2.1⟩
        by_cases s : isS (v p) = true
        · simp only [if_pos s, if_neg one_ne] at ks ⊢
          rw [ks]
        · simp only [if_neg s, if_true] at ks ⊢
          rw [ks]
  · rw [xByteE hX0 (by omega) (by omega), Option.bind_some]
    simp only [lt_def, if_true]
    have et : tkAt v ln p = 0 := tkAt_0.mpr (by omega)
    have ee : teAt v ln p = p := by unfold teAt; rw [if_neg c]
    rw [et, ee]
    exact ⟨sL σ 0 0, rfl, f0, h10, fun z => (by cases z), fun z => (by cases z)⟩
def PX (v : Nat → Nat) (ln i : Nat) (σ : ST) : Prop := ∀ j, j < i → gA σ 4 j = nI (kx (tkAt v ln (sT v ln j))) ∧ gA σ 5 j = nI (sT v ln j) ∧ (tkAt v ln (sT v ln j) = 2 → gB σ 6 j = lN (tvAt v ln (sT v ln j))) ∧ (tkAt v ln (sT v ln j) = 1 → gB σ 6 j = xnAt v ln (sT v ln j))
theorem xTapeL {v : Nat → Nat} {ln : Nat} : ∀ d i n σ, i + d = 400 → 4000 + d < n → XTp v ln σ → gI σ 1 = nI (qs v ln i) → PX v ln i σ → ∃ σ', fX7_scanTape_L9 n 1 (nI i) σ = some σ' ∧ fr [1] [4, 5] [6] σ σ' ∧ ∃ N, N ≤ 401 ∧ PX v ln N σ' ∧ (N = 401 ∨ (1 ≤ N ∧ (tkAt v ln (sT v ln (N - 1)) = 0 ∨ tkAt v ln (sT v ln (N - 1)) = 3))) := by
  intro d
  induction d with
  | zero =>
    intro i n σ hd hn hX h1 hP
    obtain ⟨n, rfl⟩ : ∃ m, n = m + 1 := ⟨n - 1, by omega⟩
    have hl := hX.2.1
    obtain ⟨σ1, a1, a2, a3⟩ := xSkip (n := n) (by omega) (qs_le v ln i) hX h1
    have a3' : gI σ1 1 = nI (sT v ln i) := a3
    have i401 : ix (nI i) 401 := ix_nI (show i < 401 by omega) (by decide)
    have b31 : i < 2 ^ 31 := by omega
    have f2 : fr [1] [4, 5] [6] σ1 (sA σ1 5 (upd (gA σ1 5) i (nI (sT v ln i)))) := fr_sA fr_rf (by decide)
    have hX2 : XTp v ln (sA σ1 5 (upd (gA σ1 5) i (nI (sT v ln i)))) := XTp_fr f2 (XTp_fr a2 hX (by decide) (by decide)) (by decide) (by decide)
    obtain ⟨σ3, b1, b2, b3, b4, b5⟩ := xTok (n := n) (by omega) (sT_le v ln i) hX2 (show gI (sA σ1 5 (upd (gA σ1 5) i (nI (sT v ln i)))) 1 = nI (sT v ln i) from a3')
    generalize ht : tkAt v ln (sT v ln i) = t at b1 b4 b5
    have tlt : t < 29 := by rw [← ht]; exact tkAt_lt _ _ _
    generalize hs5 : sB (sA σ3 4 (upd (gA σ3 4) i (nI (kx t)))) 6 (vp_updL (gB σ3 6) i (gL σ3 0)) = σ5
    have f5 : fr [1] [4, 5] [6] σ3 σ5 := by rw [← hs5]; exact fr_sB (fr_sA fr_rf (by decide)) (by decide)
    have f05 : fr [1] [4, 5] [6] σ σ5 := fr_tr (fr_up a2 (by decide) (by decide) (by decide)) (fr_tr f2 (fr_tr (fr_up b2 (by decide) (by decide) (by decide)) f5))
    have g4 : gA σ5 4 = upd (gA σ 4) i (nI (kx t)) := by rw [← hs5]; show upd (gA σ3 4) _ _ = _; rw [b2.2.1 4 (by decide)]; show upd (gA σ1 4) _ _ = _; rw [a2.2.1 4 (by decide)]
    have g5 : gA σ5 5 = upd (gA σ 5) i (nI (sT v ln i)) := by rw [← hs5]; show gA σ3 5 = _; rw [b2.2.1 5 (by decide)]; show upd (gA σ1 5) _ _ = _; rw [a2.2.1 5 (by decide)]
    have g6 : gB σ5 6 = vp_updL (gB σ 6) i (gL σ3 0) := by rw [← hs5]; show vp_updL (gB σ3 6) _ _ = _; rw [b2.2.2 6 (by decide)]; show vp_updL (gB σ1 6) _ _ = _; rw [a2.2.2 6 (by decide)]
    have hP5 : PX v ln (i + 1) σ5 := by
      intro j hj
      rw [g4, g5, g6, upd_at, upd_at, updL_at]
      by_cases q : j = i
      · rw [if_pos q, if_pos q, if_pos q, q, ht]; exact ⟨rfl, rfl, b4, b5⟩
      · rw [if_neg q, if_neg q, if_neg q]; exact hP j (by omega)
    have hX5 : XTp v ln σ5 := XTp_fr f05 hX (by decide) (by decide)
    have h15 : gI σ5 1 = nI (qs v ln (i + 1)) := by rw [← hs5]; exact b3
    have run : fX7_scanTape_L9 (n + 1) 1 (nI i) σ = if nI (kx t) = 258 then fX7_scanTape_L9 n 0 (nI (i + 1)) σ5 else if nI (kx t) = 259 then fX7_scanTape_L9 n 0 (nI (i + 1)) σ5 else fX7_scanTape_L9 n 1 (nI (i + 1)) σ5 := by
      rw [fX7_scanTape_L9, if_neg (show ¬ (400 : Int32) < nI i from nI_nlt (a := 400) (by omega) (by decide)), if_neg one_ne, a1, Option.bind_some, if_pos i401, lt_def, stA_nI _ 5 _ _ b31, a3', b1, Option.bind_some]
      simp only [if_pos i401, lt_def, stA_nI _ _ i _ b31, stB_nI _ _ i _ b31, ldA_nI _ _ i b31, nI_1]
      have e5 : sB (sA σ3 4 (upd (gA σ3 4) i (nI (kx t)))) 6 (vp_updL (gB (sA σ3 4 (upd (gA σ3 4) i (nI (kx t)))) 6) i (gL (sA σ3 4 (upd (gA σ3 4) i (nI (kx t)))) 0)) = σ5 := hs5
      rw [e5, g4, upd_at, if_pos rfl]
    rw [run]
    have stop : ∀ m, 0 < m → fX7_scanTape_L9 m 0 (nI (i + 1)) σ5 = some σ5 := by
      intro m hm
      obtain ⟨m, rfl⟩ : ∃ m', m = m' + 1 := ⟨m - 1, by omega⟩
      rw [fX7_scanTape_L9, if_pos rfl]
      split <;> rfl
    have k0 := kx_inj tlt (show 0 < 29 by decide)
    have k3 := kx_inj tlt (show 3 < 29 by decide)
    by_cases c0 : t = 0
    · rw [if_pos (show nI (kx t) = (258 : Int32) from k0.mpr c0), stop n (by omega)]
      exact ⟨σ5, rfl, f05, i + 1, by omega, hP5, Or.inr ⟨by omega, Or.inl (by rw [Nat.add_sub_cancel, ht]; exact c0)⟩⟩
    · rw [if_neg (show ¬ nI (kx t) = (258 : Int32) from fun q => c0 (k0.mp q))]
      by_cases c3 : t = 3
      · rw [if_pos (show nI (kx t) = (259 : Int32) from k3.mpr c3), stop n (by omega)]
        exact ⟨σ5, rfl, f05, i + 1, by omega, hP5, Or.inr ⟨by omega, Or.inr (by rw [Nat.add_sub_cancel, ht]; exact c3)⟩⟩
      · rw [if_neg (show ¬ nI (kx t) = (259 : Int32) from fun q => c3 (k3.mp q))]
        obtain ⟨n, rfl⟩ : ∃ m, n = m + 1 := ⟨n - 1, by omega⟩
        rw [fX7_scanTape_L9, if_pos (show (400 : Int32) < nI (i + 1) from nI_lt (a := 400) (by omega) (by omega))]
        exact ⟨σ5, rfl, f05, i + 1, by omega, hP5, Or.inl (by omega)⟩
  | succ d ih =>
    intro i n σ hd hn hX h1 hP
    obtain ⟨n, rfl⟩ : ∃ m, n = m + 1 := ⟨n - 1, by omega⟩
    have hl := hX.2.1
    obtain ⟨σ1, a1, a2, a3⟩ := xSkip (n := n) (by omega) (qs_le v ln i) hX h1
    have a3' : gI σ1 1 = nI (sT v ln i) := a3
    have i401 : ix (nI i) 401 := ix_nI (show i < 401 by omega) (by decide)
    have b31 : i < 2 ^ 31 := by omega
    have f2 : fr [1] [4, 5] [6] σ1 (sA σ1 5 (upd (gA σ1 5) i (nI (sT v ln i)))) := fr_sA fr_rf (by decide)
    have hX2 : XTp v ln (sA σ1 5 (upd (gA σ1 5) i (nI (sT v ln i)))) := XTp_fr f2 (XTp_fr a2 hX (by decide) (by decide)) (by decide) (by decide)
    obtain ⟨σ3, b1, b2, b3, b4, b5⟩ := xTok (n := n) (by omega) (sT_le v ln i) hX2 (show gI (sA σ1 5 (upd (gA σ1 5) i (nI (sT v ln i)))) 1 = nI (sT v ln i) from a3')
    generalize ht : tkAt v ln (sT v ln i) = t at b1 b4 b5
    have tlt : t < 29 := by rw [← ht]; exact tkAt_lt _ _ _
    generalize hs5 : sB (sA σ3 4 (upd (gA σ3 4) i (nI (kx t)))) 6 (vp_updL (gB σ3 6) i (gL σ3 0)) = σ5
    have f5 : fr [1] [4, 5] [6] σ3 σ5 := by rw [← hs5]; exact fr_sB (fr_sA fr_rf (by decide)) (by decide)
    have f05 : fr [1] [4, 5] [6] σ σ5 := fr_tr (fr_up a2 (by decide) (by decide) (by decide)) (fr_tr f2 (fr_tr (fr_up b2 (by decide) (by decide) (by decide)) f5))
    have g4 : gA σ5 4 = upd (gA σ 4) i (nI (kx t)) := by rw [← hs5]; show upd (gA σ3 4) _ _ = _; rw [b2.2.1 4 (by decide)]; show upd (gA σ1 4) _ _ = _; rw [a2.2.1 4 (by decide)]
    have g5 : gA σ5 5 = upd (gA σ 5) i (nI (sT v ln i)) := by rw [← hs5]; show gA σ3 5 = _; rw [b2.2.1 5 (by decide)]; show upd (gA σ1 5) _ _ = _; rw [a2.2.1 5 (by decide)]
    have g6 : gB σ5 6 = vp_updL (gB σ 6) i (gL σ3 0) := by rw [← hs5]; show vp_updL (gB σ3 6) _ _ = _; rw [b2.2.2 6 (by decide)]; show vp_updL (gB σ1 6) _ _ = _; rw [a2.2.2 6 (by decide)]
    have hP5 : PX v ln (i + 1) σ5 := by
      intro j hj
      rw [g4, g5, g6, upd_at, upd_at, updL_at]
      by_cases q : j = i
      · rw [if_pos q, if_pos q, if_pos q, q, ht]; exact ⟨rfl, rfl, b4, b5⟩
      · rw [if_neg q, if_neg q, if_neg q]; exact hP j (by omega)
    have hX5 : XTp v ln σ5 := XTp_fr f05 hX (by decide) (by decide)
    have h15 : gI σ5 1 = nI (qs v ln (i + 1)) := by rw [← hs5]; exact b3
    have run : fX7_scanTape_L9 (n + 1) 1 (nI i) σ = if nI (kx t) = 258 then fX7_scanTape_L9 n 0 (nI (i + 1)) σ5 else if nI (kx t) = 259 then fX7_scanTape_L9 n 0 (nI (i + 1)) σ5 else fX7_scanTape_L9 n 1 (nI (i + 1)) σ5 := by
      rw [fX7_scanTape_L9, if_neg (show ¬ (400 : Int32) < nI i from nI_nlt (a := 400) (by omega) (by decide)), if_neg one_ne, a1, Option.bind_some, if_pos i401, lt_def, stA_nI _ 5 _ _ b31, a3', b1, Option.bind_some]
      simp only [if_pos i401, lt_def, stA_nI _ _ i _ b31, stB_nI _ _ i _ b31, ldA_nI _ _ i b31, nI_1]
      have e5 : sB (sA σ3 4 (upd (gA σ3 4) i (nI (kx t)))) 6 (vp_updL (gB (sA σ3 4 (upd (gA σ3 4) i (nI (kx t)))) 6) i (gL (sA σ3 4 (upd (gA σ3 4) i (nI (kx t)))) 0)) = σ5 := hs5
      rw [e5, g4, upd_at, if_pos rfl]
    rw [run]
    have stop : ∀ m, 0 < m → fX7_scanTape_L9 m 0 (nI (i + 1)) σ5 = some σ5 := by
      intro m hm
      obtain ⟨m, rfl⟩ : ∃ m', m = m' + 1 := ⟨m - 1, by omega⟩
      rw [fX7_scanTape_L9, if_pos rfl]
      split <;> rfl
    have k0 := kx_inj tlt (show 0 < 29 by decide)
    have k3 := kx_inj tlt (show 3 < 29 by decide)
    by_cases c0 : t = 0
    · rw [if_pos (show nI (kx t) = (258 : Int32) from k0.mpr c0), stop n (by omega)]
      exact ⟨σ5, rfl, f05, i + 1, by omega, hP5, Or.inr ⟨by omega, Or.inl (by rw [Nat.add_sub_cancel, ht]; exact c0)⟩⟩
    · rw [if_neg (show ¬ nI (kx t) = (258 : Int32) from fun q => c0 (k0.mp q))]
      by_cases c3 : t = 3
      · rw [if_pos (show nI (kx t) = (259 : Int32) from k3.mpr c3), stop n (by omega)]
        exact ⟨σ5, rfl, f05, i + 1, by omega, hP5, Or.inr ⟨by omega, Or.inr (by rw [Nat.add_sub_cancel, ht]; exact c3)⟩⟩
      · rw [if_neg (show ¬ nI (kx t) = (259 : Int32) from fun q => c3 (k3.mp q))]
        obtain ⟨σ', p1, p2, p3⟩ := ih (i + 1) n σ5 (by omega) (by omega) hX5 h15 hP5
        exact ⟨σ', p1, fr_tr f05 p2, p3⟩
theorem xScanT {v : Nat → Nat} {ln n : Nat} {σ : ST} (hn : 5000 < n) (hX : XTp v ln σ) : ∃ σ', fX7_scanTape n σ = some σ' ∧ fr [1] [4, 5] [6] σ σ' ∧ ∃ N, N ≤ 401 ∧ PX v ln N σ' ∧ (N = 401 ∨ (1 ≤ N ∧ (tkAt v ln (sT v ln (N - 1)) = 0 ∨ tkAt v ln (sT v ln (N - 1)) = 3))) := by
  have f0 : fr [1] [4, 5] [6] σ (sI σ 1 0) := fr_sI fr_rf (by decide)
  unfold fX7_scanTape
  rw [lt_def, lt_def, lt_def]
  obtain ⟨σ', a, b, c⟩ := xTapeL 400 0 n (sI σ 1 0) rfl (by omega) (XTp_fr f0 hX (by decide) (by decide)) rfl (fun j hj => absurd hj (Nat.not_lt_zero j))
  exact ⟨σ', a, fr_tr f0 b, c⟩
