/-! ===== PURE: read: the reference cuts the text into TOKENS ===== -/
def MTp (v : Nat → Nat) (ln : Nat) (τ : ST) : Prop := gI τ 2 = nI ln ∧ ln ≤ 2000 ∧ (∀ q, v q < 256) ∧ ∀ q, q < ln → gA τ 2 q &&& 255 = nI (v q)
theorem MTp_fr {v : Nat → Nat} {ln : Nat} {I A B : List Nat} {τ τ' : ST} (f : fr I A B τ τ') (h : MTp v ln τ) (h0 : 2 ∉ I) (h2 : 2 ∉ A) : MTp v ln τ' := by
  unfold MTp at *
  rw [f.1 2 h0, f.2.1 2 h2]; exact h
def atV (v : Nat → Nat) (ln q : Nat) : Nat := if q < ln then v q else 0
theorem atV_lt {v : Nat → Nat} {ln : Nat} (hv : ∀ q, v q < 256) (q : Nat) : atV v ln q < 256 := by
  unfold atV; split
  · exact hv q
  · decide
theorem mAtV {v : Nat → Nat} {ln q : Nat} {τ : ST} (h : MTp v ln τ) (hq : q < 10000) : fX11_at (nI q) τ = some (nI (atV v ln q), τ) := by
  obtain ⟨h0, hl, hv, hb⟩ := h
  unfold fX11_at atV
  rw [h0]
  by_cases c : q < ln
  · rw [if_neg (nI_ge c (by omega)), if_pos (ix_nI (show q < 2000 by omega) (by decide)), ldA_nI _ 2 _ (by omega), hb q c, if_pos c]
  · rw [if_pos (nI_le (by omega) (by omega)), if_neg c]; rfl
theorem mMore {a c : Nat} (hb : bW c = true) (τ : ST) : fX11_more (lN a) (nI c) τ = some (lN (37 * a + cd c), τ) := by
  have hw := (bW_iff c).mp hb
  unfold fX11_more
  rw [if_neg (nI_ne0 (by omega) (by omega)), mDi (by omega), Option.bind_some]
  by_cases d : bD c = true
  · have := (bD_iff c).mp d
    have e : cd c = c - 48 + 27 := by unfold cd; rw [if_pos d]
    simp only [if_pos d, if_neg one_ne]
    rw [show nI c - 48 = nI (c - 48) from pk_sub (a := c) (b := 48) (by omega), show (27 : Int32) = nI 27 from rfl, nI_add, nI_l (by omega), show (37 : Int64) = lN 37 from rfl, lN_mul, lN_add, e]
  · have hn : ¬ (48 ≤ c ∧ c ≤ 57) := fun q => d ((bD_iff c).mpr q)
    have e : cd c = c - 97 + 1 := by unfold cd; rw [if_neg d]
    simp only [if_neg d, if_true]
    rw [show nI c - 97 = nI (c - 97) from pk_sub (a := c) (b := 97) (by omega), show (1 : Int32) = nI 1 from rfl, nI_add, nI_l (by omega), show (37 : Int64) = lN 37 from rfl, lN_mul, lN_add, e]
theorem mWrdL {v : Nat → Nat} {ln p : Nat} {k : Int32 → Int32 → Int64 → ST → Option ST} {τ : ST} (hp : p ≤ ln) (hX : MTp v ln τ) : ∀ d c n, en bW v ln p - (p + c) = d → p + c ≤ en bW v ln p → d < n → fX11_cut_L85 k n (nI p) (nI c) (lN (wM8 v p (min c 8))) τ = k (nI p) (nI (en bW v ln p - p)) (lN (wM8 v p (min (en bW v ln p - p) 8))) τ := by
  have hle := en_le (P := bW) (v := v) hp
  have hl := hX.2.1
  have hv := hX.2.2.1
  intro d
  induction d with
  | zero =>
    intro c n hd hc hn
    obtain ⟨m, rfl⟩ : ∃ m, n = m + 1 := ⟨n - 1, by omega⟩
    have e : p + c = en bW v ln p := by omega
    have ec : en bW v ln p - p = c := by omega
    have st : ¬ bW (atV v ln (p + c)) = true := by
      unfold atV
      by_cases q : p + c < ln
      · rw [if_pos q]; exact fun z => en_stop bW v ln p (by rw [← e]; exact ⟨q, z⟩)
      · rw [if_neg q]; decide
    have nl : ¬ bL (atV v ln (p + c)) = true := fun z => st (by unfold bW; rw [z]; rfl)
    have nd : ¬ bD (atV v ln (p + c)) = true := fun z => st (by unfold bW; rw [z, Bool.or_true])
    rw [fX11_cut_L85, nI_add, mAtV hX (by omega), Option.bind_some]
    simp only [mLe (atV_lt hv _), Option.bind_some, lt_def, if_neg nl, if_true, mAtV hX (show p + c < 10000 by omega), mDi (atV_lt hv _), if_neg nd]
    rw [ec]
  | succ d ih =>
    intro c n hd hc hn
    obtain ⟨m, rfl⟩ : ∃ m, n = m + 1 := ⟨n - 1, by omega⟩
    obtain ⟨q, z⟩ := en_all (P := bW) (v := v) (ln := ln) (p := p) (i := p + c) (by omega) (by omega)
    have ea : atV v ln (p + c) = v (p + c) := by unfold atV; rw [if_pos q]
    have nx := ih (c + 1) m (by omega) (by omega) (by omega)
    have mx : (if (8 : Int32) ≤ nI c then fX11_cut_L85 k m (nI p) (nI (c + 1)) (lN (wM8 v p (min c 8))) τ else Option.bind (some (nI (v (p + c)), τ)) (fun q_64 => Option.bind (fX11_more (lN (wM8 v p (min c 8))) q_64.1 q_64.2) (fun q_65 => fX11_cut_L85 k m (nI p) (nI (c + 1)) q_65.1 q_65.2))) = k (nI p) (nI (en bW v ln p - p)) (lN (wM8 v p (min (en bW v ln p - p) 8))) τ := by
      by_cases c8 : 8 ≤ c
      · rw [if_pos (show (8 : Int32) ≤ nI c from nI_le c8 (by omega)), show min c 8 = min (c + 1) 8 by omega]
        exact nx
      · rw [if_neg (show ¬ (8 : Int32) ≤ nI c from nI_ge (b := 8) (by omega) (by decide)), Option.bind_some]
        simp only [mMore z, Option.bind_some]
        rw [show min c 8 = c by omega]
        rw [show min (c + 1) 8 = c + 1 by omega] at nx
        exact nx
    rw [fX11_cut_L85, nI_add, mAtV hX (by omega), Option.bind_some]
    by_cases l : bL (v (p + c)) = true
    · simp only [mLe (hv _), Option.bind_some, lt_def, ea, if_pos l, if_neg one_ne, nI_add, mAtV hX (show p + c < 10000 by omega), nI_1]
      exact mx
    · have dd : bD (v (p + c)) = true := by
        unfold bW at z
        rw [Bool.eq_false_iff.mpr l, Bool.false_or] at z; exact z
      simp only [mLe (hv _), Option.bind_some, lt_def, ea, if_neg l, if_true, nI_add, mAtV hX (show p + c < 10000 by omega), mDi (hv _), if_pos dd, if_neg one_ne, nI_1]
      exact mx
theorem mWrd0 {v : Nat → Nat} {ln p n : Nat} {k : Int32 → Int32 → Int64 → ST → Option ST} {τ : ST} (hp : p ≤ ln) (hX : MTp v ln τ) (hn : 2000 < n) : fX11_cut_L85 k n (nI p) 0 0 τ = k (nI p) (nI (en bW v ln p - p)) (lN (wM8 v p (min (en bW v ln p - p) 8))) τ := by
  have hle := en_le (P := bW) (v := v) hp
  have hl := hX.2.1
  exact mWrdL hp hX (en bW v ln p - p) 0 n rfl (en_ge bW v ln p) (by omega)
theorem mNumL {v : Nat → Nat} {ln p : Nat} {k : Int32 → Int32 → Int32 → ST → Option ST} {τ : ST} (hp : p ≤ ln) (hX : MTp v ln τ) : ∀ d c n, en bD v ln p - (p + c) = d → p + c ≤ en bD v ln p → d < n → fX11_cut_L221 k n (nI p) (nI c) (nI (dw v p (min c 4))) τ = k (nI p) (nI (en bD v ln p - p)) (nI (dw v p (min (en bD v ln p - p) 4))) τ := by
  have hle := en_le (P := bD) (v := v) hp
  have hl := hX.2.1
  have hv := hX.2.2.1
  intro d
  induction d with
  | zero =>
    intro c n hd hc hn
    obtain ⟨m, rfl⟩ : ∃ m, n = m + 1 := ⟨n - 1, by omega⟩
    have e : p + c = en bD v ln p := by omega
    have ec : en bD v ln p - p = c := by omega
    have nd : ¬ bD (atV v ln (p + c)) = true := by
      unfold atV
      by_cases q : p + c < ln
      · rw [if_pos q]; exact fun z => en_stop bD v ln p (by rw [← e]; exact ⟨q, z⟩)
      · rw [if_neg q]; decide
    rw [fX11_cut_L221, nI_add, mAtV hX (by omega), Option.bind_some]
    simp only [mDi (atV_lt hv _), Option.bind_some, if_neg nd, if_true]
    rw [ec]
  | succ d ih =>
    intro c n hd hc hn
    obtain ⟨m, rfl⟩ : ∃ m, n = m + 1 := ⟨n - 1, by omega⟩
    obtain ⟨q, z⟩ := en_all (P := bD) (v := v) (ln := ln) (p := p) (i := p + c) (by omega) (by omega)
    have hz := (bD_iff _).mp z
    have ea : atV v ln (p + c) = v (p + c) := by unfold atV; rw [if_pos q]
    have nx := ih (c + 1) m (by omega) (by omega) (by omega)
    rw [fX11_cut_L221, nI_add, mAtV hX (by omega), Option.bind_some]
    simp only [mDi (hv _), Option.bind_some, lt_def, ea, if_pos z, if_neg one_ne, mAtV hX (show p + c < 10000 by omega), nI_1]
    by_cases c4 : 4 ≤ c
    · rw [if_pos (show (4 : Int32) ≤ nI c from nI_le c4 (by omega)), show min c 4 = min (c + 1) 4 by omega]
      exact nx
    · rw [if_neg (show ¬ (4 : Int32) ≤ nI c from nI_ge (b := 4) (by omega) (by decide))]
      have ev : (10 : Int32) * nI (dw v p (min c 4)) + nI (v (p + c)) - 48 = nI (dw v p (min (c + 1) 4)) := by
        rw [show min c 4 = c by omega, show min (c + 1) 4 = c + 1 by omega, show (10 : Int32) = nI 10 from rfl, pk_mul, nI_add, show (48 : Int32) = nI 48 from rfl, pk_sub (by omega), dw]
        exact congrArg nI (by omega)
      rw [ev]; exact nx
theorem mNum0 {v : Nat → Nat} {ln p n : Nat} {k : Int32 → Int32 → Int32 → ST → Option ST} {τ : ST} (hp : p ≤ ln) (hX : MTp v ln τ) (hn : 2000 < n) : fX11_cut_L221 k n (nI p) 0 0 τ = k (nI p) (nI (en bD v ln p - p)) (nI (dw v p (min (en bD v ln p - p) 4))) τ := by
  have hle := en_le (P := bD) (v := v) hp
  have hl := hX.2.1
  exact mNumL hp hX (en bD v ln p - p) 0 n rfl (en_ge bD v ln p) (by omega)
/-- the key words -/
def K9 (k : Nat) : Nat := if k = 0 then 812503 else if k = 1 then 37549136 else if k = 2 then 1258393700 else if k = 3 then 6258 else if k = 4 then 1604747592 else if k = 5 then 26801 else if k = 6 then 6411565 else if k = 7 then 679747 else 17858
def kf (m : Nat) : Nat → Nat → Nat → Nat
  | _, 0, x => x
  | k, d + 1, x => kf m (k + 1) d (if K9 k = m then 20 + k else x)
theorem keys9 {τ : ST} (h : mKeys τ) : ∀ k, k < 9 → gB τ 7 k = lN (K9 k) := by
  obtain ⟨h0, h1, h2, h3, h4, h5, h6, h7, h8⟩ := h
  intro k hk
  rcases (show k = 0 ∨ k = 1 ∨ k = 2 ∨ k = 3 ∨ k = 4 ∨ k = 5 ∨ k = 6 ∨ k = 7 ∨ k = 8 by omega) with rfl | rfl | rfl | rfl | rfl | rfl | rfl | rfl | rfl
  · exact h0
  · exact h1
  · exact h2
  · exact h3
  · exact h4
  · exact h5
  · exact h6.trans rfl
  · exact h7.trans rfl
  · exact h8.trans rfl
theorem kf_kw (m : Nat) : kf m 0 9 1 = kw m := by
  by_cases c0 : m = 812503
  · rw [c0]; decide
  by_cases c1 : m = 37549136
  · rw [c1]; decide
  by_cases c2 : m = 1258393700
  · rw [c2]; decide
  by_cases c3 : m = 6258
  · rw [c3]; decide
  by_cases c4 : m = 1604747592
  · rw [c4]; decide
  by_cases c5 : m = 26801
  · rw [c5]; decide
  by_cases c6 : m = 6411565
  · rw [c6]; decide
  by_cases c7 : m = 679747
  · rw [c7]; decide
  by_cases c8 : m = 17858
  · rw [c8]; decide
  have e : kw m = 1 := by unfold kw; rw [if_neg c0, if_neg c1, if_neg c2, if_neg c3, if_neg c4, if_neg c5, if_neg c6, if_neg c7, if_neg c8]
  have n : ∀ k, k < 9 → ¬ K9 k = m := by
    intro k hk q
    rcases (show k = 0 ∨ k = 1 ∨ k = 2 ∨ k = 3 ∨ k = 4 ∨ k = 5 ∨ k = 6 ∨ k = 7 ∨ k = 8 by omega) with rfl | rfl | rfl | rfl | rfl | rfl | rfl | rfl | rfl
    · exact c0 q.symm
    · exact c1 q.symm
    · exact c2 q.symm
    · exact c3 q.symm
    · exact c4 q.symm
    · exact c5 q.symm
    · exact c6 q.symm
    · exact c7 q.symm
    · exact c8 q.symm
  have all : ∀ d k, k + d = 9 → kf m k d 1 = 1 := by
    intro d
    induction d with
    | zero => intro k _; rfl
    | succ d ih => intro k hk; rw [kf, if_neg (n k (by omega))]; exact ih (k + 1) (by omega)
  rw [e]; exact all 9 0 rfl
theorem mKeyL {τ : ST} {m : Nat} {kk : Int32 → Int32 → Int64 → Int32 → ST → Option ST} {x1 x3 : Int32} (hk : mKeys τ) (hm : m < 2 ^ 62) : ∀ d k n x6, k + d = 9 → d < n → fX11_cut_L159 kk n x1 x3 (lN m) (nI x6) (nI k) τ = kk x1 x3 (lN m) (nI (kf m k d x6)) τ := by
  intro d
  induction d with
  | zero =>
    intro k n x6 hd hn
    obtain ⟨n, rfl⟩ : ∃ m, n = m + 1 := ⟨n - 1, by omega⟩
    rw [fX11_cut_L159, if_pos (show (9 : Int32) ≤ nI k from nI_le (a := 9) (by omega) (by omega))]; rfl
  | succ d ih =>
    intro k n x6 hd hn
    obtain ⟨n, rfl⟩ : ∃ m, n = m + 1 := ⟨n - 1, by omega⟩
    have hK : K9 k < 2 ^ 62 := by
      unfold K9
      repeat' split
      all_goals decide
    rw [fX11_cut_L159, if_neg (show ¬ (9 : Int32) ≤ nI k from nI_ge (b := 9) (by omega) (by decide)), if_pos (ix_nI (show k < 16 by omega) (by decide)), ldB_nI _ 7 _ (by omega), keys9 hk k (by omega), kf]
    simp only [lt_def, nI_1]
    by_cases c : K9 k = m
    · rw [if_pos ((lgc_eq _ _).mpr (by rw [c])), if_pos c, show (20 : Int32) = nI 20 from rfl, nI_add]
      exact ih (k + 1) n (20 + k) (by omega) (by omega)
    · rw [if_neg (fun q => c (lN_inj (by omega) (by omega) ((lgc_eq _ _).mp q))), if_neg c]
      exact ih (k + 1) n x6 (by omega) (by omega)
theorem mKey0 {τ : ST} {m n : Nat} {kk : Int32 → Int32 → Int64 → Int32 → ST → Option ST} {x1 x3 : Int32} (hk : mKeys τ) (hm : m < 2 ^ 62) (hn : 9 < n) : fX11_cut_L159 kk n x1 x3 (lN m) 1 0 τ = kk x1 x3 (lN m) (nI (kw m)) τ := by
  rw [← kf_kw m]
  exact mKeyL hk hm 9 0 n 1 rfl hn
/-- tokens -/
def PM (v : Nat → Nat) (ln i : Nat) (τ : ST) : Prop := ∀ j, j < i → gA τ 3 j = nI (tkAt v ln (sT v ln j)) ∧ gA τ 4 j = nI (sT v ln j) ∧ (tkAt v ln (sT v ln j) = 2 → gA τ 5 j = nI (tvAt v ln (sT v ln j))) ∧ (tkAt v ln (sT v ln j) = 1 → gB τ 6 j = mnAt v ln (sT v ln j))
def frC (τ τ' : ST) : Prop := fr [3] [3, 4, 5] [6] τ τ'
theorem mTokn {v : Nat → Nat} {ln i c : Nat} {d : Int64} {τ : ST} (hi : i ≤ 400) (h3 : gI τ 3 = nI i) (hP : PM v ln i τ) (hc : tkAt v ln (sT v ln i) = 2 → c = tvAt v ln (sT v ln i)) (hd : tkAt v ln (sT v ln i) = 1 → d = mnAt v ln (sT v ln i)) : ∃ τ', fX11_token (nI (tkAt v ln (sT v ln i))) (nI (sT v ln i)) (nI c) d τ = some τ' ∧ frC τ τ' ∧ gI τ' 3 = nI (i + 1) ∧ PM v ln (i + 1) τ' := by
  have i403 : ix (nI i) 403 := ix_nI (show i < 403 by omega) (by decide)
  have b31 : i < 2 ^ 31 := by omega
  unfold fX11_token
  rw [h3, if_pos i403, lt_def, stA_nI _ 3 _ _ b31, gI_sA, h3, if_pos i403, lt_def, stA_nI _ 4 _ _ b31, gI_sA, gI_sA, h3, if_pos i403, lt_def, stA_nI _ 5 _ _ b31, gI_sA, gI_sA, gI_sA, h3, if_pos i403, lt_def, stB_nI _ 6 _ _ b31, lt_def, gI_sB, gI_sA, gI_sA, gI_sA, h3, nI_1]
  refine ⟨_, rfl, fr_sI (fr_sB (fr_sA (fr_sA (fr_sA fr_rf (by decide)) (by decide)) (by decide)) (by decide)) (by decide), rfl, fun j hj => ?_⟩
  show upd (gA τ 3) i _ j = _ ∧ upd (gA τ 4) i _ j = _ ∧ (_ → upd (gA τ 5) i _ j = _) ∧ (_ → vp_updL (gB τ 6) i _ j = _)
  rw [upd_at, upd_at, upd_at, updL_at]
  by_cases q : j = i
  · rw [if_pos q, if_pos q, if_pos q, if_pos q, q]
    exact ⟨rfl, rfl, fun z => by rw [hc z], hd⟩
  · rw [if_neg q, if_neg q, if_neg q, if_neg q]; exact hP j (by omega)
def K31 (σ : ST) : Option ST := Option.bind (fX11_token ((0 : Int32)) (gI σ 2) ((0 : Int32)) ((0 : Int64)) σ) (fun q_105 => some q_105)
theorem blk {α : Type} {c : Nat} (hc : c < 256) (A B : α) : (if nI c = (9 : Int32) then A else if nI c = (10 : Int32) then A else if nI c = (13 : Int32) then A else if nI c = (32 : Int32) then A else B) = if bB c = true then A else B := by
  have e : ∀ k : Nat, k < 256 → ((nI c = nI k) ↔ c = k) := fun k hk => nI_eq (by omega) (by omega)
  by_cases h0 : c = 9
  · rw [if_pos (show nI c = (9 : Int32) from (e 9 (by decide)).mpr h0), if_pos (by rw [h0]; decide)]
  · rw [if_neg (show ¬ nI c = (9 : Int32) from fun q => h0 ((e 9 (by decide)).mp q))]
    by_cases h1 : c = 10
    · rw [if_pos (show nI c = (10 : Int32) from (e 10 (by decide)).mpr h1), if_pos (by rw [h1]; decide)]
    · rw [if_neg (show ¬ nI c = (10 : Int32) from fun q => h1 ((e 10 (by decide)).mp q))]
      by_cases h2 : c = 13
      · rw [if_pos (show nI c = (13 : Int32) from (e 13 (by decide)).mpr h2), if_pos (by rw [h2]; decide)]
      · rw [if_neg (show ¬ nI c = (13 : Int32) from fun q => h2 ((e 13 (by decide)).mp q))]
        by_cases h3 : c = 32
        · rw [if_pos (show nI c = (32 : Int32) from (e 32 (by decide)).mpr h3), if_pos (by rw [h3]; decide)]
        · rw [if_neg (show ¬ nI c = (32 : Int32) from fun q => h3 ((e 32 (by decide)).mp q)), if_neg (by unfold bB; rw [decide_eq_false h0, decide_eq_false h1, decide_eq_false h2, decide_eq_false h3]; decide)]
theorem sgn {α : Type} {c : Nat} (hc : c < 256) (f : Int32 → α) : (if nI c = (61 : Int32) then f 4 else if nI c = (44 : Int32) then f 5 else if nI c = (59 : Int32) then f 6 else if nI c = (40 : Int32) then f 7 else if nI c = (41 : Int32) then f 8 else if nI c = (43 : Int32) then f 9 else if nI c = (45 : Int32) then f 10 else if nI c = (42 : Int32) then f 11 else f 3) = f (nI (sg c)) := by
  have e : ∀ k : Nat, k < 256 → ((nI c = nI k) = (c = k)) := fun k hk => propext (nI_eq (by omega) (by omega))
  have e1 : (nI c = (61 : Int32)) = (c = 61) := e 61 (by decide)
  have e2 : (nI c = (44 : Int32)) = (c = 44) := e 44 (by decide)
  have e3 : (nI c = (59 : Int32)) = (c = 59) := e 59 (by decide)
  have e4 : (nI c = (40 : Int32)) = (c = 40) := e 40 (by decide)
  have e5 : (nI c = (41 : Int32)) = (c = 41) := e 41 (by decide)
  have e6 : (nI c = (43 : Int32)) = (c = 43) := e 43 (by decide)
  have e7 : (nI c = (45 : Int32)) = (c = 45) := e 45 (by decide)
  have e8 : (nI c = (42 : Int32)) = (c = 42) := e 42 (by decide)
  simp only [e1, e2, e3, e4, e5, e6, e7, e8]
  unfold sg
  repeat' split
  all_goals rfl
