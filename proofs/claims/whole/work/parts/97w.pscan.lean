/-! ===== PURE: read: bytes, words and numbers ===== -/
theorem nb_and (x : Int32) : nb x &&& 255 = x &&& 255 := by
  show x.toInt8.toInt32 &&& 255 = x &&& 255
  apply Int32.toBitVec_inj.mp
  rw [Int32.toBitVec_and, Int32.toBitVec_and, Int8.toBitVec_toInt32, Int32.toBitVec_toInt8]
  apply BitVec.eq_of_getLsbD_eq
  intro i hi
  rw [BitVec.getLsbD_and, BitVec.getLsbD_and]
  by_cases c : i < 8
  · rw [BitVec.getLsbD_signExtend, if_pos c, BitVec.getLsbD_signExtend, if_pos hi, decide_eq_true hi, decide_eq_true c, Bool.true_and, Bool.true_and]
  · have key : ∀ j : Fin 32, 8 ≤ j.1 → (255 : Int32).toBitVec.getLsbD j.1 = false := by decide
    rw [key ⟨i, hi⟩ (by show 8 ≤ i; omega), Bool.and_false, Bool.and_false]
def bV (x : Int32) : Nat := x.toBitVec.toNat % 256
theorem bV_lt (x : Int32) : bV x < 256 := Nat.mod_lt _ (by decide)
theorem bV_and (x : Int32) : x &&& 255 = nI (bV x) := by
  have e : x = nI x.toBitVec.toNat := (nI_any x).symm
  have e2 : nI x.toBitVec.toNat &&& nI 255 = nI (x.toBitVec.toNat &&& 255) := nI_and _ _
  rw [show x.toBitVec.toNat &&& 255 = bV x from Nat.and_two_pow_sub_one_eq_mod x.toBitVec.toNat 8, ← e] at e2
  exact e2
theorem bvL (n : Nat) : (lN n).toBitVec = BitVec.ofNat 64 n := rfl
theorem natL {n : Nat} (h : n < 2 ^ 64) : (lN n).toBitVec.toNat = n := by rw [bvL, BitVec.toNat_ofNat]; exact Nat.mod_eq_of_lt h
theorem lN_or (a b : Nat) : lN a ||| lN b = lN (a ||| b) := by
  apply Int64.toBitVec_inj.mp
  rw [Int64.toBitVec_or, bvL, bvL, bvL]
  apply BitVec.eq_of_toNat_eq
  simp only [BitVec.toNat_or, BitVec.toNat_ofNat]
  exact (Nat.or_mod_two_pow).symm
theorem lN_shl8 (a : Nat) : lN a <<< (((8 : Int32)).toInt64 &&& 63) = lN (256 * a) := by
  apply Int64.toBitVec_inj.mp
  rw [Int64.toBitVec_shiftLeft, show ((((8 : Int32)).toInt64 &&& 63).toBitVec.smod 64) = 8#64 from by decide, bvL, bvL, BitVec.shiftLeft_eq']
  apply BitVec.eq_of_toNat_eq
  rw [show (8#64).toNat = 8 from rfl, BitVec.toNat_shiftLeft, BitVec.toNat_ofNat, BitVec.toNat_ofNat, Nat.shiftLeft_eq]
  omega
theorem lN_cat {a c : Nat} (hc : c < 256) : (lN a <<< (((8 : Int32)).toInt64 &&& 63)) ||| lN c = lN (256 * a + c) := by
  rw [lN_shl8, lN_or]
  exact congrArg lN (Nat.two_pow_add_eq_or_of_lt (i := 8) hc a).symm
theorem lN_inj {a b : Nat} (ha : a < 2 ^ 64) (hb : b < 2 ^ 64) (h : lN a = lN b) : a = b := by
  rw [← natL ha, ← natL hb, h]
/-- numbers of words: base B, digits 1 .. B - 1 -/
def bw (B : Nat) (d : Nat → Nat) : Nat → Nat
  | 0 => 0
  | n + 1 => B * bw B d n + d n
theorem bw_lt {B : Nat} {d : Nat → Nat} : ∀ n, (∀ i, i < n → d i < B) → bw B d n < B ^ n := by
  intro n
  induction n with
  | zero => intro _; exact Nat.zero_lt_one
  | succ n ih =>
    intro h
    have h1 := ih (fun i hi => h i (by omega))
    have h2 := h n (by omega)
    rw [bw, Nat.pow_succ, Nat.mul_comm (B ^ n) B]
    have h3 : B * (bw B d n + 1) ≤ B * B ^ n := Nat.mul_le_mul_left B h1
    rw [Nat.mul_add, Nat.mul_one] at h3
    omega
theorem bw_inj {B : Nat} {d d' : Nat → Nat} : ∀ n n', (∀ i, i < n → 1 ≤ d i ∧ d i < B) → (∀ i, i < n' → 1 ≤ d' i ∧ d' i < B) → bw B d n = bw B d' n' → n = n' ∧ ∀ i, i < n → d i = d' i := by
  intro n
  induction n with
  | zero =>
    intro n' _ h' e
    cases n' with
    | zero => exact ⟨rfl, fun i hi => absurd hi (Nat.not_lt_zero i)⟩
    | succ n' =>
      have := (h' n' (by omega)).1
      rw [bw, bw] at e
      omega
  | succ n ih =>
    intro n' h h' e
    cases n' with
    | zero =>
      have := (h n (by omega)).1
      rw [bw, bw] at e
      omega
    | succ n' =>
      have h1 := h n (by omega)
      have h2 := h' n' (by omega)
      rw [bw, bw] at e
      have hB : 0 < B := by omega
      have m1 : (B * bw B d n + d n) % B = d n := by rw [Nat.mul_add_mod, Nat.mod_eq_of_lt h1.2]
      have m2 : (B * bw B d' n' + d' n') % B = d' n' := by rw [Nat.mul_add_mod, Nat.mod_eq_of_lt h2.2]
      have ed : d n = d' n' := by rw [← m1, ← m2, e]
      have eb : bw B d n = bw B d' n' := by
        rw [ed] at e
        exact Nat.eq_of_mul_eq_mul_left hB (Nat.add_right_cancel e)
      obtain ⟨r1, r2⟩ := ih n' (fun i hi => h i (by omega)) (fun i hi => h' i (by omega)) eb
      subst r1
      refine ⟨rfl, fun i hi => ?_⟩
      by_cases q : i = n
      · rw [q]; exact ed
      · exact r2 i (by omega)
theorem bw_congr {B : Nat} {d d' : Nat → Nat} : ∀ n, (∀ i, i < n → d i = d' i) → bw B d n = bw B d' n := by
  intro n
  induction n with
  | zero => intro _; rfl
  | succ n ih => intro h; rw [bw, bw, ih (fun i hi => h i (by omega)), h n (by omega)]
/-- kinds of bytes -/
def bB (c : Nat) : Bool := decide (c = 9) || decide (c = 10) || decide (c = 13) || decide (c = 32)
def bL (c : Nat) : Bool := decide (97 ≤ c) && decide (c ≤ 122)
def bD (c : Nat) : Bool := decide (48 ≤ c) && decide (c ≤ 57)
def bW (c : Nat) : Bool := bL c || bD c
def sg (c : Nat) : Nat := if c = 61 then 4 else if c = 44 then 5 else if c = 59 then 6 else if c = 40 then 7 else if c = 41 then 8 else if c = 43 then 9 else if c = 45 then 10 else if c = 42 then 11 else 3
def cd (c : Nat) : Nat := if bD c = true then c - 48 + 27 else c - 97 + 1
theorem bL_iff (c : Nat) : bL c = true ↔ 97 ≤ c ∧ c ≤ 122 := by unfold bL; rw [Bool.and_eq_true, decide_eq_true_eq, decide_eq_true_eq]
theorem bD_iff (c : Nat) : bD c = true ↔ 48 ≤ c ∧ c ≤ 57 := by unfold bD; rw [Bool.and_eq_true, decide_eq_true_eq, decide_eq_true_eq]
theorem bW_iff (c : Nat) : bW c = true ↔ (97 ≤ c ∧ c ≤ 122) ∨ (48 ≤ c ∧ c ≤ 57) := by unfold bW; rw [Bool.or_eq_true, bL_iff, bD_iff]
theorem cd_rng {c : Nat} (h : bW c = true) : 1 ≤ cd c ∧ cd c < 37 := by
  rw [bW_iff] at h
  unfold cd
  by_cases q : bD c = true
  · rw [if_pos q]; rw [bD_iff] at q; omega
  · rw [if_neg q]; rw [bD_iff] at q; omega
theorem cd_inj {c c' : Nat} (h : bW c = true) (h' : bW c' = true) (e : cd c = cd c') : c = c' := by
  rw [bW_iff] at h h'
  unfold cd at e
  by_cases q : bD c = true
  · by_cases q' : bD c' = true
    · rw [if_pos q, if_pos q'] at e; rw [bD_iff] at q q'; omega
    · rw [if_pos q, if_neg q'] at e; rw [bD_iff] at q q'; omega
  · by_cases q' : bD c' = true
    · rw [if_neg q, if_pos q'] at e; rw [bD_iff] at q q'; omega
    · rw [if_neg q, if_neg q'] at e; rw [bD_iff] at q q'; omega
/-- where a run of bytes ends -/
def rn (P : Nat → Bool) (v : Nat → Nat) (ln : Nat) : Nat → Nat → Nat
  | 0, p => p
  | f + 1, p => if p < ln ∧ P (v p) = true then rn P v ln f (p + 1) else p
def en (P : Nat → Bool) (v : Nat → Nat) (ln p : Nat) : Nat := rn P v ln (ln - p) p
theorem en_yes {P : Nat → Bool} {v : Nat → Nat} {ln p : Nat} (hp : p < ln) (h : P (v p) = true) : en P v ln p = en P v ln (p + 1) := by
  unfold en
  obtain ⟨f, hf⟩ : ∃ f, ln - p = f + 1 := ⟨ln - p - 1, by omega⟩
  rw [hf, rn, if_pos ⟨hp, h⟩, show ln - (p + 1) = f by omega]
theorem en_no {P : Nat → Bool} {v : Nat → Nat} {ln p : Nat} (h : ¬ (p < ln ∧ P (v p) = true)) : en P v ln p = p := by
  unfold en
  generalize ln - p = f
  cases f with
  | zero => rfl
  | succ f => rw [rn, if_neg h]
theorem en_spec {P : Nat → Bool} {v : Nat → Nat} {ln : Nat} : ∀ d p, ln - p = d → p ≤ en P v ln p ∧ (p ≤ ln → en P v ln p ≤ ln) ∧ (∀ i, p ≤ i → i < en P v ln p → i < ln ∧ P (v i) = true) ∧ ¬ (en P v ln p < ln ∧ P (v (en P v ln p)) = true) := by
  intro d
  induction d with
  | zero =>
    intro p hd
    have e : en P v ln p = p := en_no (fun q => by omega)
    rw [e]
    exact ⟨Nat.le_refl _, fun h => h, fun i a b => by omega, fun q => by omega⟩
  | succ d ih =>
    intro p hd
    by_cases c : p < ln ∧ P (v p) = true
    · obtain ⟨a, b, c1, c2⟩ := ih (p + 1) (by omega)
      rw [en_yes c.1 c.2]
      refine ⟨by omega, fun _ => b (by omega), fun i x y => ?_, c2⟩
      by_cases q : i = p
      · rw [q]; exact c
      · exact c1 i (by omega) y
    · rw [en_no c]
      exact ⟨Nat.le_refl _, fun h => h, fun i a b => by omega, c⟩
theorem en_ge (P : Nat → Bool) (v : Nat → Nat) (ln p : Nat) : p ≤ en P v ln p := (en_spec _ p rfl).1
theorem en_le {P : Nat → Bool} {v : Nat → Nat} {ln p : Nat} (h : p ≤ ln) : en P v ln p ≤ ln := (en_spec _ p rfl).2.1 h
theorem en_all {P : Nat → Bool} {v : Nat → Nat} {ln p i : Nat} (h1 : p ≤ i) (h2 : i < en P v ln p) : i < ln ∧ P (v i) = true := (en_spec _ p rfl).2.2.1 i h1 h2
theorem en_stop (P : Nat → Bool) (v : Nat → Nat) (ln p : Nat) : ¬ (en P v ln p < ln ∧ P (v (en P v ln p)) = true) := (en_spec _ p rfl).2.2.2
/-- a token at a place -/
def wX8 (v : Nat → Nat) (p n : Nat) : Nat := bw 256 (fun i => v (p + i)) n
def wM8 (v : Nat → Nat) (p n : Nat) : Nat := bw 37 (fun i => cd (v (p + i))) n
def dw (v : Nat → Nat) (p : Nat) : Nat → Nat
  | 0 => 0
  | n + 1 => 10 * dw v p n + (v (p + n) - 48)
def kw (m : Nat) : Nat := if m = 812503 then 20 else if m = 37549136 then 21 else if m = 1258393700 then 22 else if m = 6258 then 23 else if m = 1604747592 then 24 else if m = 26801 then 25 else if m = 6411565 then 26 else if m = 679747 then 27 else if m = 17858 then 28 else 1
def wk (v : Nat → Nat) (p n : Nat) : Nat := if n ≤ 8 then (if n ≤ 6 then kw (wM8 v p n) else 1) else 3
def tkAt (v : Nat → Nat) (ln p : Nat) : Nat := if p < ln then (if bL (v p) = true then wk v p (en bW v ln p - p) else if bD (v p) = true then (if en bD v ln p - p ≤ 4 then 2 else 3) else sg (v p)) else 0
def tvAt (v : Nat → Nat) (ln p : Nat) : Nat := dw v p (en bD v ln p - p)
def teAt (v : Nat → Nat) (ln p : Nat) : Nat := if p < ln then (if bL (v p) = true then en bW v ln p else if bD (v p) = true then en bD v ln p else p + 1) else p
def xnAt (v : Nat → Nat) (ln p : Nat) : Int64 := lN (wX8 v p (en bW v ln p - p))
def mnAt (v : Nat → Nat) (ln p : Nat) : Int64 := lN (wM8 v p (en bW v ln p - p))
def qs (v : Nat → Nat) (ln : Nat) : Nat → Nat
  | 0 => 0
  | i + 1 => teAt v ln (en bB v ln (qs v ln i))
def sT (v : Nat → Nat) (ln i : Nat) : Nat := en bB v ln (qs v ln i)
theorem teAt_le {v : Nat → Nat} {ln p : Nat} (h : p ≤ ln) : teAt v ln p ≤ ln := by
  unfold teAt
  by_cases c : p < ln
  · rw [if_pos c]; split
    · exact en_le h
    · split
      · exact en_le h
      · omega
  · rw [if_neg c]; exact h
theorem teAt_gt {v : Nat → Nat} {ln p : Nat} (c : p < ln) : p < teAt v ln p := by
  unfold teAt
  rw [if_pos c]
  by_cases l : bL (v p) = true
  · rw [if_pos l, en_yes (P := bW) c (by unfold bW; rw [l]; rfl)]
    exact en_ge bW v ln (p + 1)
  · rw [if_neg l]
    by_cases d : bD (v p) = true
    · rw [if_pos d, en_yes (P := bD) c d]; exact en_ge bD v ln (p + 1)
    · rw [if_neg d]; omega
theorem qs_le (v : Nat → Nat) (ln : Nat) : ∀ i, qs v ln i ≤ ln := by
  intro i
  induction i with
  | zero => exact Nat.zero_le _
  | succ i ih => rw [qs]; exact teAt_le (en_le ih)
theorem sT_le (v : Nat → Nat) (ln i : Nat) : sT v ln i ≤ ln := en_le (qs_le v ln i)
theorem kw_lt (m : Nat) : kw m < 29 ∧ kw m ≠ 0 ∧ kw m ≠ 2 := by
  unfold kw
  repeat' split
  all_goals decide
theorem sg_lt (c : Nat) : sg c < 29 ∧ sg c ≠ 0 ∧ sg c ≠ 1 ∧ sg c ≠ 2 := by
  unfold sg
  repeat' split
  all_goals decide
theorem wk_lt (v : Nat → Nat) (p n : Nat) : wk v p n < 29 ∧ wk v p n ≠ 0 ∧ wk v p n ≠ 2 := by
  unfold wk
  split
  · split
    · exact kw_lt _
    · decide
  · decide
theorem tkAt_lt (v : Nat → Nat) (ln p : Nat) : tkAt v ln p < 29 := by
  unfold tkAt
  split
  · split
    · exact (wk_lt _ _ _).1
    · split
      · split <;> decide
      · exact (sg_lt _).1
  · decide
theorem tkAt_0 {v : Nat → Nat} {ln p : Nat} : tkAt v ln p = 0 ↔ ln ≤ p := by
  unfold tkAt
  by_cases c : p < ln
  · rw [if_pos c]
    refine iff_of_false ?_ (by omega)
    split
    · exact (wk_lt _ _ _).2.1
    · split
      · split <;> decide
      · exact (sg_lt _).2.1
  · rw [if_neg c]; exact iff_of_true rfl (by omega)
theorem tkAt_2 {v : Nat → Nat} {ln p : Nat} (h : tkAt v ln p = 2) : p < ln ∧ bL (v p) = false ∧ bD (v p) = true ∧ en bD v ln p - p ≤ 4 := by
  unfold tkAt at h
  by_cases c : p < ln
  · rw [if_pos c] at h
    by_cases l : bL (v p) = true
    · rw [if_pos l] at h; exact absurd h (wk_lt _ _ _).2.2
    · rw [if_neg l] at h
      by_cases d : bD (v p) = true
      · rw [if_pos d] at h
        refine ⟨c, Bool.eq_false_iff.mpr l, d, ?_⟩
        rcases Nat.lt_or_ge 4 (en bD v ln p - p) with z | z
        · rw [if_neg (by omega)] at h; cases h
        · exact z
      · rw [if_neg d] at h; exact absurd h (sg_lt _).2.2.2
  · rw [if_neg c] at h; cases h
theorem tkAt_1 {v : Nat → Nat} {ln p : Nat} (h : tkAt v ln p = 1) : p < ln ∧ bL (v p) = true ∧ en bW v ln p - p ≤ 8 := by
  unfold tkAt at h
  by_cases c : p < ln
  · rw [if_pos c] at h
    by_cases l : bL (v p) = true
    · rw [if_pos l] at h
      refine ⟨c, l, ?_⟩
      unfold wk at h
      rcases Nat.lt_or_ge 8 (en bW v ln p - p) with z | z
      · rw [if_neg (by omega)] at h; cases h
      · exact z
    · rw [if_neg l] at h
      by_cases d : bD (v p) = true
      · rw [if_pos d] at h
        split at h <;> cases h
      · rw [if_neg d] at h; exact absurd h (sg_lt _).2.2.1
  · rw [if_neg c] at h; cases h
theorem dw_lt {v : Nat → Nat} {p : Nat} : ∀ n, (∀ i, i < n → bD (v (p + i)) = true) → dw v p n < 10 ^ n := by
  intro n
  induction n with
  | zero => intro _; exact Nat.zero_lt_one
  | succ n ih =>
    intro h
    have h1 := ih (fun i hi => h i (by omega))
    have h2 := (bD_iff _).mp (h n (by omega))
    rw [dw, Nat.pow_succ]
    omega
theorem tv_lt {v : Nat → Nat} {ln p : Nat} (h : tkAt v ln p = 2) : tvAt v ln p < 10000 := by
  obtain ⟨c, -, d, e⟩ := tkAt_2 h
  have g := en_ge bD v ln p
  have := dw_lt (v := v) (p := p) (en bD v ln p - p) (fun i hi => (en_all (P := bD) (ln := ln) (p := p) (by omega) (by omega)).2)
  unfold tvAt
  exact Nat.lt_of_lt_of_le this (Nat.le_trans (Nat.pow_le_pow_right (by decide) e) (by decide))
/-- names are told apart alike -/
theorem wd_eq {v v' : Nat → Nat} {p p' n n' : Nat} (h : ∀ i, i < n → bW (v (p + i)) = true) (h' : ∀ i, i < n' → bW (v' (p' + i)) = true) : wX8 v p n = wX8 v' p' n' ↔ wM8 v p n = wM8 v' p' n' := by
  have r1 : ∀ {c : Nat}, bW c = true → 1 ≤ c ∧ c < 256 := fun q => by rw [bW_iff] at q; omega
  constructor
  · intro e
    obtain ⟨a, b⟩ := bw_inj n n' (fun i hi => r1 (h i hi)) (fun i hi => r1 (h' i hi)) e
    subst a
    exact bw_congr n (fun i hi => by show cd (v (p + i)) = cd (v' (p' + i)); exact congrArg cd (b i hi))
  · intro e
    obtain ⟨a, b⟩ := bw_inj n n' (fun i hi => cd_rng (h i hi)) (fun i hi => cd_rng (h' i hi)) e
    subst a
    exact bw_congr n (fun i hi => cd_inj (h i hi) (h' i hi) (b i hi))
theorem wX8_lt {v : Nat → Nat} {p n : Nat} (hn : n ≤ 8) (hv : ∀ i, v i < 256) : wX8 v p n < 2 ^ 64 := by
  have := bw_lt (B := 256) (d := fun i => v (p + i)) n (fun i _ => hv _)
  exact Nat.lt_of_lt_of_le this (Nat.le_trans (Nat.pow_le_pow_right (by decide) hn) (by decide))
theorem wM8_lt {v : Nat → Nat} {p n : Nat} (hn : n ≤ 8) (h : ∀ i, i < n → bW (v (p + i)) = true) : wM8 v p n < 2 ^ 62 := by
  have := bw_lt (B := 37) (d := fun i => cd (v (p + i))) n (fun i hi => (cd_rng (h i hi)).2)
  exact Nat.lt_of_lt_of_le this (Nat.le_trans (Nat.pow_le_pow_right (by decide) hn) (by decide))
