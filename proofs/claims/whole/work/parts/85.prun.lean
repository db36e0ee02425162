/-! ===== PURE: running ahead, in numbers ===== -/
def mxT (b : Nat) (P : Nat → Bool) (f : Nat → Nat) : Nat → Nat
  | 0 => b
  | n + 1 => if P n = true then max (mxT b P f n) (f n) else mxT b P f n
theorem mxT_le {b t : Nat} {P : Nat → Bool} {f : Nat → Nat} : ∀ n, mxT b P f n ≤ t ↔ b ≤ t ∧ ∀ x, x < n → P x = true → f x ≤ t := by
  intro n
  induction n with
  | zero => exact ⟨fun h => ⟨h, fun x hx => absurd hx (Nat.not_lt_zero x)⟩, fun h => h.1⟩
  | succ n ih =>
    rw [mxT]
    by_cases c : P n = true
    · rw [if_pos c, Nat.max_le, ih]
      constructor
      · rintro ⟨⟨h1, h2⟩, h3⟩
        refine ⟨h1, fun x hx hp => ?_⟩
        rcases Nat.lt_or_ge x n with z | z
        · exact h2 x z hp
        · rw [show x = n by omega]; exact h3
      · rintro ⟨h1, h2⟩
        exact ⟨⟨h1, fun x hx => h2 x (by omega)⟩, h2 n (Nat.lt_succ_self n) c⟩
    · rw [if_neg c, ih]
      constructor
      · rintro ⟨h1, h2⟩
        refine ⟨h1, fun x hx hp => ?_⟩
        rcases Nat.lt_or_ge x n with z | z
        · exact h2 x z hp
        · rw [show x = n by omega] at hp; exact absurd hp c
      · rintro ⟨h1, h2⟩
        exact ⟨h1, fun x hx => h2 x (by omega)⟩
theorem mxT_cg {b : Nat} {P : Nat → Bool} {f g : Nat → Nat} : ∀ n, (∀ x, x < n → f x = g x) → mxT b P f n = mxT b P g n := by
  intro n
  induction n with
  | zero => intro _; rfl
  | succ n ih =>
    intro h
    rw [mxT, mxT, ih (fun x hx => h x (by omega)), h n (Nat.lt_succ_self n)]
def misB (a : AS) (k x : Nat) : Bool := (cN a 3 k).testBit x && !(cS a 8).testBit x
def opG (a : AS) (ld : Nat → Nat) (k : Nat) : Nat := mxT (cS a 3 + 1) (misB a k) ld 6
def wayB (a : AS) (k : Nat) : Bool := decide (cN a 12 0 = k + 1) || (decide (cN a 12 1 = k + 1) || decide (cN a 12 2 = k + 1))
theorem wayB_iff (a : AS) (k : Nat) : wayB a k = true ↔ ∃ h, h < 3 ∧ cN a 12 h = k + 1 := by
  unfold wayB
  rw [Bool.or_eq_true, Bool.or_eq_true, decide_eq_true_iff, decide_eq_true_iff, decide_eq_true_iff]
  constructor
  · rintro (h | h | h)
    · exact ⟨0, by decide, h⟩
    · exact ⟨1, by decide, h⟩
    · exact ⟨2, by decide, h⟩
  · rintro ⟨h, h3, e⟩
    rcases (show h = 0 ∨ h = 1 ∨ h = 2 by omega) with rfl | rfl | rfl
    · exact Or.inl e
    · exact Or.inr (Or.inl e)
    · exact Or.inr (Or.inr e)
def waitB (a : AS) (k : Nat) : Bool := !(cS a 6).testBit k && !wayB a k
def prtN (a : AS) (f : Nat → Nat) (k : Nat) : Nat := mxT 0 (fun j => (cN a 4 k).testBit j) (fun j => f j + 1) k
def soV (a : AS) (ld f : Nat → Nat) (k : Nat) : Nat := if (cS a 6).testBit k = true then cN a 14 k else if wayB a k = true then min 400 (cS a 3 + cN a 0 k - cN a 16 k) else min 400 (max (opG a ld k) (prtN a f k) + cN a 0 k - 1)
def soN (a : AS) (ld : Nat → Nat) : Nat → Nat → Nat
  | 0 => fun _ => 0
  | k + 1 => uN (soN a ld k) k (soV a ld (soN a ld k) k)
def soA (a : AS) (ld : Nat → Nat) : Nat → Nat := soN a ld (cS a 1)
theorem soN_st {a : AS} {ld : Nat → Nat} {j : Nat} : ∀ d, soN a ld (j + 1 + d) j = soN a ld (j + 1) j := by
  intro d
  induction d with
  | zero => rfl
  | succ d ih =>
    rw [← Nat.add_assoc, soN, uN_at, if_neg (by omega)]
    exact ih
theorem soN_at {a : AS} {ld : Nat → Nat} {j k : Nat} (h : j < k) : soN a ld k j = soN a ld (j + 1) j := by
  obtain ⟨d, rfl⟩ : ∃ d, k = j + 1 + d := ⟨k - (j + 1), by omega⟩
  exact soN_st d
theorem soA_at {a : AS} {ld : Nat → Nat} {j k : Nat} (h : j < k) (hk : k ≤ cS a 1) : soN a ld k j = soA a ld j := by
  unfold soA
  rw [soN_at h, soN_at (show j < cS a 1 by omega)]
theorem prtN_cg {a : AS} {f g : Nat → Nat} {k : Nat} (h : ∀ j, j < k → f j = g j) : prtN a f k = prtN a g k := mxT_cg k (fun x hx => by rw [h x hx])
theorem soV_cg {a : AS} {ld f g : Nat → Nat} {k : Nat} (h : ∀ j, j < k → f j = g j) : soV a ld f k = soV a ld g k := by
  unfold soV; rw [prtN_cg h]
theorem soN_new {a : AS} {ld : Nat → Nat} {k : Nat} (hk : k < cS a 1) : soN a ld (k + 1) k = soV a ld (soA a ld) k := by
  rw [soN, uN_at, if_pos rfl]
  exact soV_cg (fun j hj => soA_at hj (by omega))
theorem soA_eq {a : AS} {ld : Nat → Nat} {k : Nat} (hk : k < cS a 1) : soA a ld k = soV a ld (soA a ld) k := by
  rw [← soA_at (Nat.lt_succ_self k) (show k + 1 ≤ cS a 1 by omega)]; exact soN_new hk
abbrev RS : Type := (Nat → Nat) × (Nat → Nat) × Nat
def opA (a : AS) (k : Nat) : Nat := opG a (cN a 10) k
def soE (a : AS) : Nat → Nat := soA a (cN a 10)
def ptsB (a : AS) (t : Nat) (en : Nat → Nat) (k : Nat) : Bool := (List.range 7).all (fun j => !(cN a 4 k).testBit j || decide (en j < t))
theorem ptsB_iff {a : AS} {t k : Nat} {en : Nat → Nat} (h : cN a 4 k < 128) : ptsB a t en k = true ↔ ∀ j, (cN a 4 k).testBit j = true → en j < t := by
  unfold ptsB
  rw [List.all_eq_true]
  constructor
  · intro q j hj
    have hj7 : j < 7 := by
      rcases Nat.lt_or_ge j 7 with z | z
      · exact z
      · rw [Nat.testBit_lt_two_pow (Nat.lt_of_lt_of_le (show cN a 4 k < 2 ^ 7 from h) (Nat.pow_le_pow_right (by decide) z))] at hj; cases hj
    have := q j (List.mem_range.mpr hj7)
    rw [hj] at this
    simpa using this
  · intro q j _
    cases hj : (cN a 4 k).testBit j
    · rfl
    · simpa using q j hj
def rdyB (a : AS) (t : Nat) (s : RS) (k : Nat) : Bool := waitB a k && (!s.2.2.testBit k && (decide (opA a k ≤ t) && ptsB a t s.1 k))
theorem rdyB_iff {a : AS} {t k : Nat} {s : RS} (h : cN a 4 k < 128) : rdyB a t s k = true ↔ waitB a k = true ∧ s.2.2.testBit k = false ∧ opA a k ≤ t ∧ ∀ j, (cN a 4 k).testBit j = true → s.1 j < t := by
  unfold rdyB
  rw [Bool.and_eq_true, Bool.and_eq_true, Bool.and_eq_true, ptsB_iff h, decide_eq_true_iff]
  simp
def putS (a : AS) (t h k : Nat) (s : RS) : RS := (uN s.1 k (min 400 (t + cN a 0 k - 1)), uN s.2.1 h (min 400 (t + cN a 0 k - 1) + 1), s.2.2 ||| 2 ^ k)
def begS (a : AS) (l : List Nat) (t h : Nat) (s : RS) : RS := if s.2.1 h ≤ t then (match l.find? (rdyB a t s) with
  | some k => putS a t h k s
  | none => s) else s
def hosS (a : AS) (l : List Nat) (t : Nat) : Nat → RS → RS
  | 0, s => s
  | h + 1, s => begS a l t h (hosS a l t h s)
def sta (a : AS) : RS := (fun k => if waitB a k = true then 400 else soE a k, fun h => if cN a 12 h = 0 then cS a 3 + 1 else soE a (cN a 12 h - 1) + 1, 0)
def runS (a : AS) (l : List Nat) : Nat → RS
  | 0 => sta a
  | n + 1 => hosS a l (cS a 3 + 1 + n) (cS a 4) (runS a l n)
def finS (a : AS) (l : List Nat) : RS := runS a l (399 - cS a 3)
theorem begS_no {a : AS} {l : List Nat} {t h : Nat} {s : RS} (hn : s.2.1 h ≤ t → ∀ k ∈ l, rdyB a t s k = false) : begS a l t h s = s := by
  unfold begS
  by_cases c : s.2.1 h ≤ t
  · rw [if_pos c, List.find?_eq_none.mpr (fun k hk => by rw [hn c k hk]; decide)]
  · rw [if_neg c]
/-- what is needed of the house -/
def hs0 (a : AS) : Prop := cS a 1 ≤ 7 ∧ cS a 3 ≤ 399 ∧ cS a 4 ≤ 3 ∧ (∀ k, k < cS a 1 → 1 ≤ cN a 0 k ∧ cN a 0 k ≤ 20 ∧ cN a 4 k < 2 ^ k ∧ ((cS a 6).testBit k = true → cN a 14 k ≤ cS a 3)) ∧ (∀ h, h < 3 → cN a 12 h ≤ cS a 1) ∧ (∀ h, cS a 4 ≤ h → h < 3 → cN a 12 h = 0) ∧ (∀ h, h < 3 → cN a 12 h ≠ 0 → (cS a 6).testBit (cN a 12 h - 1) = false ∧ cN a 16 (cN a 12 h - 1) < cN a 0 (cN a 12 h - 1)) ∧ (∀ h h', h < 3 → h' < 3 → cN a 12 h ≠ 0 → cN a 12 h = cN a 12 h' → h = h')
theorem pt128 {a : AS} (hs : hs0 a) {k : Nat} (hk : k < cS a 1) : cN a 4 k < 128 := by
  have h1 := hs.1
  have := (hs.2.2.2.1 k hk).2.2.1
  have : 2 ^ k ≤ 2 ^ 7 := Nat.pow_le_pow_right (by decide) (by omega)
  omega
theorem pt_lt {a : AS} (hs : hs0 a) {k j : Nat} (hk : k < cS a 1) (hj : (cN a 4 k).testBit j = true) : j < k := by
  rcases Nat.lt_or_ge j k with z | z
  · exact z
  · rw [Nat.testBit_lt_two_pow (Nat.lt_of_lt_of_le (hs.2.2.2.1 k hk).2.2.1 (Nat.pow_le_pow_right (by decide) z))] at hj; cases hj
def RI (a : AS) (t : Nat) (s : RS) : Prop := (∀ k, k < cS a 1 → soE a k ≤ s.1 k ∧ s.1 k ≤ 400) ∧ (∀ k, k < cS a 1 → waitB a k = true → s.2.2.testBit k = false → s.1 k = 400) ∧
  (∀ k, k < cS a 1 → (waitB a k = false ∨ s.2.2.testBit k = true) → t ≤ s.1 k → ∃ h, h < cS a 4 ∧ s.2.1 h = s.1 k + 1) ∧ (∀ k, s.2.2.testBit k = true → k < cS a 1 ∧ waitB a k = true) ∧ (∀ h, h < 3 → s.2.1 h ≤ 401)
theorem RI_up {a : AS} {t u : Nat} {s : RS} (h : RI a t s) (htu : t ≤ u) : RI a u s := ⟨h.1, h.2.1, fun k hk hw ht => h.2.2.1 k hk hw (by omega), h.2.2.2⟩
theorem soA_le {a : AS} {ld : Nat → Nat} (hs : hs0 a) {k : Nat} (hk : k < cS a 1) : soA a ld k ≤ 400 := by
  rw [soA_eq hk]
  unfold soV
  split
  · rename_i c
    have := (hs.2.2.2.1 k hk).2.2.2 c
    have := hs.2.1
    omega
  · split
    · omega
    · omega
theorem RI_sta {a : AS} (hs : hs0 a) : RI a (cS a 3 + 1) (sta a) := by
  refine ⟨fun k hk => ?_, fun k hk hw _ => ?_, fun k hk hw ht => ?_, fun k h => ?_, fun h h3 => ?_⟩
  · have h4 : soE a k ≤ 400 := soA_le hs hk
    show soE a k ≤ (if waitB a k = true then 400 else soE a k) ∧ (if waitB a k = true then 400 else soE a k) ≤ 400
    split <;> omega
  · show (if waitB a k = true then 400 else soE a k) = 400
    rw [if_pos hw]
  · have hz : (0 : Nat).testBit k = false := Nat.zero_testBit k
    have hw' : waitB a k = false := by
      rcases hw with z | z
      · exact z
      · have z' : (0 : Nat).testBit k = true := z
        rw [hz] at z'; cases z'
    have ht' : cS a 3 + 1 ≤ if waitB a k = true then 400 else soE a k := ht
    show ∃ h, h < cS a 4 ∧ (if cN a 12 h = 0 then cS a 3 + 1 else soE a (cN a 12 h - 1) + 1) = (if waitB a k = true then 400 else soE a k) + 1
    rw [if_neg (by rw [hw']; decide)] at ht' ⊢
    have hd : (cS a 6).testBit k = false := by
      cases c : (cS a 6).testBit k
      · rfl
      · have e : soE a k = cN a 14 k := by
          show soA a (cN a 10) k = _
          rw [soA_eq hk]; unfold soV; rw [if_pos c]
        have := (hs.2.2.2.1 k hk).2.2.2 c
        omega
    have hy : wayB a k = true := by
      unfold waitB at hw'
      rw [hd] at hw'
      cases c : wayB a k
      · rw [c] at hw'; cases hw'
      · rfl
    obtain ⟨h, h3, he⟩ := (wayB_iff a k).mp hy
    refine ⟨h, ?_, ?_⟩
    · rcases Nat.lt_or_ge h (cS a 4) with z | z
      · exact z
      · have := hs.2.2.2.2.2.1 h z h3; omega
    · rw [if_neg (by omega), he, Nat.add_sub_cancel]
  · have h' : (0 : Nat).testBit k = true := h
    rw [Nat.zero_testBit] at h'; cases h'
  · show (if cN a 12 h = 0 then cS a 3 + 1 else soE a (cN a 12 h - 1) + 1) ≤ 401
    have := hs.2.1
    split
    · omega
    · rename_i c
      have h5 := hs.2.2.2.2.1 h h3
      have : soE a (cN a 12 h - 1) ≤ 400 := soA_le hs (by omega)
      omega
theorem min_ge {t k : Nat} {a : AS} (hs : hs0 a) (hk : k < cS a 1) (ht : t ≤ 400) : t ≤ min 400 (t + cN a 0 k - 1) := by
  have := (hs.2.2.2.1 k hk).1
  omega
theorem soE_le_beg {a : AS} (hs : hs0 a) {t k : Nat} {s : RS} (hk : k < cS a 1) (hI : ∀ j, j < cS a 1 → soE a j ≤ s.1 j ∧ s.1 j ≤ 400) (hr : rdyB a t s k = true) : soE a k ≤ min 400 (t + cN a 0 k - 1) := by
  obtain ⟨r1, r2, r3, r4⟩ := (rdyB_iff (pt128 hs hk)).mp hr
  have hd : (cS a 6).testBit k = false ∧ wayB a k = false := by
    unfold waitB at r1
    rw [Bool.and_eq_true] at r1
    exact ⟨by simpa using r1.1, by simpa using r1.2⟩
  show soA a (cN a 10) k ≤ _
  rw [soA_eq hk]
  unfold soV
  rw [if_neg (by rw [hd.1]; decide), if_neg (by rw [hd.2]; decide)]
  have h1 : opG a (cN a 10) k ≤ t := r3
  have h2 : prtN a (soA a (cN a 10)) k ≤ t := by
    unfold prtN
    rw [mxT_le]
    refine ⟨Nat.zero_le _, fun j hj hb => ?_⟩
    have := r4 j hb
    have : soA a (cN a 10) j ≤ s.1 j := (hI j (by omega)).1
    omega
  have := (hs.2.2.2.1 k hk).1
  omega
theorem RI_put {a : AS} (hs : hs0 a) {t h k : Nat} {s : RS} (hh : h < cS a 4) (hk : k < cS a 1) (ht : t ≤ 399) (hf : s.2.1 h ≤ t) (hI : RI a t s) (hr : rdyB a t s k = true) : RI a t (putS a t h k s) := by
  have hse := soE_le_beg hs hk hI.1 hr
  have hge := min_ge (a := a) (t := t) hs hk (by omega)
  obtain ⟨r1, r2, r3, r4⟩ := (rdyB_iff (pt128 hs hk)).mp hr
  obtain ⟨i1, i2, i3, i4, i5⟩ := hI
  refine ⟨fun j hj => ?_, fun j hj hw hb => ?_, fun j hj hw hte => ?_, fun j hj => ?_, fun q hq => ?_⟩
  · show soE a j ≤ uN s.1 k (min 400 (t + cN a 0 k - 1)) j ∧ uN s.1 k (min 400 (t + cN a 0 k - 1)) j ≤ 400
    rw [uN_at]
    split
    · rename_i e; subst e; omega
    · exact i1 j hj
  · have hb' : (s.2.2 ||| 2 ^ k).testBit j = false := hb
    rw [testBit_set, Bool.or_eq_false_iff] at hb'
    show uN s.1 k (min 400 (t + cN a 0 k - 1)) j = 400
    rw [uN_at, if_neg (fun e => by simp at hb'; omega)]
    exact i2 j hj hw hb'.1
  · have hte' : t ≤ uN s.1 k (min 400 (t + cN a 0 k - 1)) j := hte
    show ∃ q, q < cS a 4 ∧ uN s.2.1 h (min 400 (t + cN a 0 k - 1) + 1) q = uN s.1 k (min 400 (t + cN a 0 k - 1)) j + 1
    by_cases e : j = k
    · subst e
      exact ⟨h, hh, by rw [uN_at, uN_at, if_pos rfl, if_pos rfl]⟩
    · rw [uN_at, if_neg e] at hte' ⊢
      have hw' : waitB a j = false ∨ s.2.2.testBit j = true := by
        rcases hw with z | z
        · exact Or.inl z
        · have z' : (s.2.2 ||| 2 ^ k).testBit j = true := z
          rw [testBit_set, Bool.or_eq_true] at z'
          rcases z' with y | y
          · exact Or.inr y
          · exact absurd (of_decide_eq_true y).symm e
      obtain ⟨q, q1, q2⟩ := i3 j hj hw' hte'
      exact ⟨q, q1, by rw [uN_at, if_neg (fun z => by rw [z] at q2; omega)]; exact q2⟩
  · have hj' : (s.2.2 ||| 2 ^ k).testBit j = true := hj
    rw [testBit_set, Bool.or_eq_true] at hj'
    rcases hj' with y | y
    · exact i4 j y
    · have : k = j := of_decide_eq_true y
      subst this; exact ⟨hk, r1⟩
  · show uN s.2.1 h (min 400 (t + cN a 0 k - 1) + 1) q ≤ 401
    rw [uN_at]
    split
    · omega
    · exact i5 q hq
theorem begS_cases {a : AS} {l : List Nat} {t h : Nat} (s : RS) : (begS a l t h s = s ∧ (s.2.1 h ≤ t → ∀ k ∈ l, rdyB a t s k = false)) ∨ ∃ k, k ∈ l ∧ s.2.1 h ≤ t ∧ l.find? (rdyB a t s) = some k ∧ rdyB a t s k = true ∧ begS a l t h s = putS a t h k s := by
  by_cases c : s.2.1 h ≤ t
  · cases f : l.find? (rdyB a t s) with
    | none =>
      left
      have hn : ∀ k ∈ l, rdyB a t s k = false := fun k hk => by
        have := List.find?_eq_none.mp f k hk
        simpa using this
      exact ⟨begS_no (fun _ => hn), fun _ => hn⟩
    | some k =>
      right
      refine ⟨k, List.mem_of_find?_eq_some f, c, rfl, List.find?_some f, ?_⟩
      unfold begS
      rw [if_pos c, f]
  · left
    exact ⟨by unfold begS; rw [if_neg c], fun z => absurd z c⟩
def inK (a : AS) (l : List Nat) : Prop := ∀ k ∈ l, k < cS a 1
theorem RI_beg {a : AS} (hs : hs0 a) {l : List Nat} (hl : inK a l) {t h : Nat} {s : RS} (hh : h < cS a 4) (ht : t ≤ 399) (hI : RI a t s) : RI a t (begS a l t h s) := by
  rcases begS_cases (a := a) (l := l) (t := t) (h := h) s with ⟨e, -⟩ | ⟨k, h1, h2, -, h3, e⟩
  · rw [e]; exact hI
  · rw [e]; exact RI_put hs hh (hl k h1) ht h2 hI h3
theorem RI_hos {a : AS} (hs : hs0 a) {l : List Nat} (hl : inK a l) {t : Nat} {s : RS} (ht : t ≤ 399) (hI : RI a t s) : ∀ h, h ≤ cS a 4 → RI a t (hosS a l t h s) := by
  intro h
  induction h with
  | zero => intro _; exact hI
  | succ h ih => intro hh; exact RI_beg hs hl (by omega) ht (ih (by omega))
theorem RI_run {a : AS} (hs : hs0 a) {l : List Nat} (hl : inK a l) : ∀ n, n ≤ 399 - cS a 3 → RI a (cS a 3 + 1 + n) (runS a l n) := by
  intro n
  induction n with
  | zero => intro _; exact RI_sta hs
  | succ n ih =>
    intro hn
    have := RI_hos hs hl (t := cS a 3 + 1 + n) (by omega) (ih (by omega)) (cS a 4) (Nat.le_refl _)
    exact RI_up this (by omega)
/-- after a tick no free host leaves a ready step -/
theorem rdy_put {a : AS} (hs : hs0 a) {t h k j : Nat} {s : RS} (hk : k < cS a 1) (hj : j < cS a 1) (ht : t ≤ 400) (he : t ≤ s.1 k) (hr : rdyB a t (putS a t h k s) j = true) : rdyB a t s j = true := by
  obtain ⟨r1, r2, r3, r4⟩ := (rdyB_iff (pt128 hs hj)).mp hr
  refine (rdyB_iff (pt128 hs hj)).mpr ⟨r1, ?_, r3, fun q hq => ?_⟩
  · have r2' : (s.2.2 ||| 2 ^ k).testBit j = false := r2
    rw [testBit_set, Bool.or_eq_false_iff] at r2'
    exact r2'.1
  · have r4' : uN s.1 k (min 400 (t + cN a 0 k - 1)) q < t := r4 q hq
    rw [uN_at] at r4'
    by_cases e : q = k
    · rw [if_pos e] at r4'
      have := min_ge (a := a) (t := t) hs hk ht
      omega
    · rw [if_neg e] at r4'; exact r4'
theorem aft {a : AS} (hs : hs0 a) {l : List Nat} (hl : inK a l) {t : Nat} (ht : t ≤ 399) : ∀ h s, h ≤ cS a 4 → RI a t s → ∀ q, q < h → (hosS a l t h s).2.1 q ≤ t → ∀ k ∈ l, rdyB a t (hosS a l t h s) k = false := by
  intro h
  induction h with
  | zero => intro s _ _ q hq; exact absurd hq (Nat.not_lt_zero q)
  | succ h ih =>
    intro s hh hI q hq hf k hk
    have hI' := RI_hos hs hl ht hI h (by omega)
    have ih' := ih s (by omega) hI
    rw [hosS] at hf ⊢
    rcases begS_cases (a := a) (l := l) (t := t) (h := h) (hosS a l t h s) with ⟨e, hn⟩ | ⟨k', h1, h2, -, h3, e⟩
    · rw [e] at hf ⊢
      rcases Nat.lt_or_ge q h with z | z
      · exact ih' q z hf k hk
      · have : q = h := by omega
        subst this; exact hn hf k hk
    · rw [e] at hf ⊢
      have hf' : uN (hosS a l t h s).2.1 h (min 400 (t + cN a 0 k' - 1) + 1) q ≤ t := hf
      rw [uN_at] at hf'
      have hge := min_ge (a := a) (t := t) hs (hl k' h1) (by omega)
      by_cases z : q = h
      · rw [if_pos z] at hf'; omega
      · rw [if_neg z] at hf'
        cases c : rdyB a t (putS a t h k' (hosS a l t h s)) k
        · rfl
        · have r := (rdyB_iff (pt128 hs (hl k' h1))).mp h3
          have e4 := hI'.2.1 k' (hl k' h1) r.1 r.2.1
          have := rdy_put hs (hl k' h1) (hl k hk) (by omega) (by omega) c
          rw [ih' q (by omega) hf' k hk] at this
          cases this
def covers (a : AS) (l : List Nat) : Prop := ∀ k, k < cS a 1 → waitB a k = true → k ∈ l
theorem hosS_idle {a : AS} {l : List Nat} {t : Nat} {s : RS} : ∀ h, (∀ q, q < h → s.2.1 q ≤ t → ∀ k ∈ l, rdyB a t s k = false) → hosS a l t h s = s := by
  intro h
  induction h with
  | zero => intro _; rfl
  | succ h ih =>
    intro hn
    rw [hosS, ih (fun q hq => hn q (by omega))]
    exact begS_no (hn h (Nat.lt_succ_self h))
theorem idle_skip {a : AS} (hs : hs0 a) {t u : Nat} {s : RS} (hI : RI a t s) (hu : u ≤ 400) (hfree : ∀ q, q < cS a 4 → s.2.1 q ≤ t → ∀ k, k < cS a 1 → rdyB a t s k = false) (htu : t < u) (hH : ∀ q, q < cS a 4 → t < s.2.1 q → u < s.2.1 q) (hO : ∀ k, k < cS a 1 → waitB a k = true → t < opA a k → u < opA a k) :
    ∀ q, q < cS a 4 → s.2.1 q ≤ u → ∀ k, k < cS a 1 → rdyB a u s k = false := by
  intro q hq hf k hk
  have hft : s.2.1 q ≤ t := by
    rcases Nat.lt_or_ge t (s.2.1 q) with z | z
    · have := hH q hq z; omega
    · exact z
  cases c : rdyB a u s k
  · rfl
  · obtain ⟨r1, r2, r3, r4⟩ := (rdyB_iff (pt128 hs hk)).mp c
    have : rdyB a t s k = true := by
      refine (rdyB_iff (pt128 hs hk)).mpr ⟨r1, r2, ?_, fun j hj => ?_⟩
      · rcases Nat.lt_or_ge t (opA a k) with z | z
        · have := hO k hk r1 z; omega
        · exact z
      · rcases Nat.lt_or_ge (s.1 j) t with z | z
        · exact z
        · have hjK : j < cS a 1 := by have := pt_lt hs hk hj; omega
          have hju := r4 j hj
          have hst : waitB a j = false ∨ s.2.2.testBit j = true := by
            cases c1 : waitB a j
            · exact Or.inl rfl
            · cases c2 : s.2.2.testBit j
              · have := hI.2.1 j hjK c1 c2; omega
              · exact Or.inr rfl
          obtain ⟨h, h1, h2⟩ := hI.2.2.1 j hjK hst z
          have := hH h h1 (by omega)
          omega
    rw [hfree q hq hft k hk] at this
    cases this
/-- many ticks in which nothing begins -/
theorem runS_skip {a : AS} {l : List Nat} {n : Nat} : ∀ d, (∀ e, e < d → ∀ q, q < cS a 4 → (runS a l n).2.1 q ≤ cS a 3 + 1 + n + e → ∀ k ∈ l, rdyB a (cS a 3 + 1 + n + e) (runS a l n) k = false) → runS a l (n + d) = runS a l n := by
  intro d
  induction d with
  | zero => intro _; rfl
  | succ d ih =>
    intro h
    have e := ih (fun e he => h e (by omega))
    rw [← Nat.add_assoc, runS, e, ← Nat.add_assoc]
    exact hosS_idle (cS a 4) (h d (Nat.lt_succ_self d))
/-- LATES -/
def costA (a : AS) (k e : Nat) : Nat := (e - cN a 1 k) * cN a 2 k
def cstS (a : AS) (s : RS) : Nat := sumTo (fun k => costA a k (if (waitB a k && !s.2.2.testBit k) = true then soE a k else s.1 k)) (cS a 1)
def lateS (a : AS) (s : RS) : Nat := sumTo (fun k => costA a k (s.1 k)) (cS a 1)
def floA (a : AS) : Nat := sumTo (fun k => costA a k (soE a k)) (cS a 1)
def CL (a : AS) (l : List Nat) : Nat := lateS a (finS a l)
theorem sumTo_le {f g : Nat → Nat} : ∀ n, (∀ k, k < n → f k ≤ g k) → sumTo f n ≤ sumTo g n := by
  intro n
  induction n with
  | zero => intro _; exact Nat.le_refl 0
  | succ n ih =>
    intro h
    rw [sumTo, sumTo]
    have := ih (fun k hk => h k (by omega))
    have := h n (Nat.lt_succ_self n)
    omega
theorem sumTo_cg {f g : Nat → Nat} : ∀ n, (∀ k, k < n → f k = g k) → sumTo f n = sumTo g n := by
  intro n
  induction n with
  | zero => intro _; rfl
  | succ n ih =>
    intro h
    rw [sumTo, sumTo, ih (fun k hk => h k (by omega)), h n (Nat.lt_succ_self n)]
theorem sumTo_one {f g : Nat → Nat} {c : Nat} : ∀ n, c < n → (∀ k, k ≠ c → f k = g k) → sumTo f n + g c = sumTo g n + f c := by
  intro n
  induction n with
  | zero => intro h; omega
  | succ n ih =>
    intro hc h
    rw [sumTo, sumTo]
    by_cases e : c = n
    · subst e
      rw [sumTo_cg c (fun k hk => h k (by omega))]; omega
    · have := ih (by omega) h
      rw [h n (fun z => e z.symm)]; omega
theorem costA_mono {a : AS} {k e e' : Nat} (h : e ≤ e') : costA a k e ≤ costA a k e' := Nat.mul_le_mul_right _ (by omega)
theorem cst_put {a : AS} {t h k : Nat} {s : RS} (hk : k < cS a 1) (hw : waitB a k = true) (hb : s.2.2.testBit k = false) : cstS a (putS a t h k s) + costA a k (soE a k) = cstS a s + costA a k (min 400 (t + cN a 0 k - 1)) := by
  unfold cstS
  have e := sumTo_one (f := fun j => costA a j (if (waitB a j && !(putS a t h k s).2.2.testBit j) = true then soE a j else (putS a t h k s).1 j)) (g := fun j => costA a j (if (waitB a j && !s.2.2.testBit j) = true then soE a j else s.1 j)) (c := k) (cS a 1) hk (fun j hj => by
    have h1 : (putS a t h k s).2.2.testBit j = s.2.2.testBit j := by
      show (s.2.2 ||| 2 ^ k).testBit j = _
      rw [testBit_set, show decide (k = j) = false by simp; omega, Bool.or_false]
    have h2 : (putS a t h k s).1 j = s.1 j := by
      show uN s.1 k _ j = _
      rw [uN_at, if_neg hj]
    show costA a j (if (waitB a j && !(putS a t h k s).2.2.testBit j) = true then soE a j else (putS a t h k s).1 j) = costA a j (if (waitB a j && !s.2.2.testBit j) = true then soE a j else s.1 j)
    rw [h1, h2])
  have e1 : (if (waitB a k && !s.2.2.testBit k) = true then soE a k else s.1 k) = soE a k := by rw [hw, hb]; rfl
  have e2 : (if (waitB a k && !(putS a t h k s).2.2.testBit k) = true then soE a k else (putS a t h k s).1 k) = min 400 (t + cN a 0 k - 1) := by
    have h1 : (putS a t h k s).2.2.testBit k = true := by
      show (s.2.2 ||| 2 ^ k).testBit k = true
      rw [testBit_set]; simp
    have h2 : (putS a t h k s).1 k = min 400 (t + cN a 0 k - 1) := by
      show uN s.1 k _ k = _
      rw [uN_at, if_pos rfl]
    rw [h1, h2, Bool.not_true, Bool.and_false]; rfl
  simp only [e1, e2] at e
  exact e
theorem cst_beg {a : AS} (hs : hs0 a) {l : List Nat} (hl : inK a l) {t h : Nat} {s : RS} (hI : RI a t s) : cstS a s ≤ cstS a (begS a l t h s) := by
  rcases begS_cases (a := a) (l := l) (t := t) (h := h) s with ⟨e, -⟩ | ⟨k, h1, h2, -, h3, e⟩
  · rw [e]; exact Nat.le_refl _
  · rw [e]
    have r := (rdyB_iff (pt128 hs (hl k h1))).mp h3
    have c1 := cst_put (t := t) (h := h) (hl k h1) r.1 r.2.1
    have c2 := costA_mono (a := a) (k := k) (soE_le_beg hs (hl k h1) hI.1 h3)
    omega
theorem cst_hos {a : AS} (hs : hs0 a) {l : List Nat} (hl : inK a l) {t : Nat} {s : RS} (ht : t ≤ 399) (hI : RI a t s) : ∀ d h, h + d ≤ cS a 4 → cstS a (hosS a l t h s) ≤ cstS a (hosS a l t (h + d) s) := by
  intro d
  induction d with
  | zero => intro h _; exact Nat.le_refl _
  | succ d ih =>
    intro h hh
    refine Nat.le_trans (ih h (by omega)) ?_
    rw [← Nat.add_assoc, hosS]
    exact cst_beg hs hl (RI_hos hs hl ht hI (h + d) (by omega))
theorem cst_run {a : AS} (hs : hs0 a) {l : List Nat} (hl : inK a l) : ∀ d n, n + d ≤ 399 - cS a 3 → cstS a (runS a l n) ≤ cstS a (runS a l (n + d)) := by
  intro d
  induction d with
  | zero => intro n _; exact Nat.le_refl _
  | succ d ih =>
    intro n hn
    refine Nat.le_trans (ih n (by omega)) ?_
    rw [← Nat.add_assoc, runS]
    have := cst_hos hs hl (t := cS a 3 + 1 + (n + d)) (by omega) (RI_run hs hl (n + d) (by omega)) (cS a 4) 0 (by omega)
    rw [Nat.zero_add] at this
    exact this
theorem cst_late {a : AS} {t : Nat} {s : RS} (hI : RI a t s) : cstS a s ≤ lateS a s := by
  unfold cstS lateS
  refine sumTo_le _ (fun k hk => costA_mono ?_)
  split
  · exact (hI.1 k hk).1
  · exact Nat.le_refl _
theorem cst_CL {a : AS} (hs : hs0 a) {l : List Nat} (hl : inK a l) {n h : Nat} (hn : n < 399 - cS a 3) (hh : h ≤ cS a 4) : cstS a (hosS a l (cS a 3 + 1 + n) h (runS a l n)) ≤ CL a l := by
  have h1 := cst_hos hs hl (t := cS a 3 + 1 + n) (by omega) (RI_run hs hl n (by omega)) (cS a 4 - h) h (by omega)
  rw [show h + (cS a 4 - h) = cS a 4 by omega] at h1
  have h2 := cst_run hs hl (399 - cS a 3 - (n + 1)) (n + 1) (by omega)
  rw [show n + 1 + (399 - cS a 3 - (n + 1)) = 399 - cS a 3 by omega] at h2
  have h3 := cst_late (RI_run hs hl (399 - cS a 3) (Nat.le_refl _))
  exact Nat.le_trans h1 (Nat.le_trans h2 h3)
theorem cst_CL0 {a : AS} (hs : hs0 a) {l : List Nat} (hl : inK a l) {n : Nat} (hn : n ≤ 399 - cS a 3) : cstS a (runS a l n) ≤ CL a l := by
  have h2 := cst_run hs hl (399 - cS a 3 - n) n (by omega)
  rw [show n + (399 - cS a 3 - n) = 399 - cS a 3 by omega] at h2
  exact Nat.le_trans h2 (cst_late (RI_run hs hl (399 - cS a 3) (Nat.le_refl _)))
theorem cst_sta {a : AS} : cstS a (sta a) = floA a := by
  unfold cstS floA
  refine sumTo_cg _ (fun k hk => ?_)
  show costA a k (if (waitB a k && !(0 : Nat).testBit k) = true then soE a k else (if waitB a k = true then 400 else soE a k)) = _
  rw [Nat.zero_testBit]
  cases waitB a k <;> rfl
theorem floA_le {a : AS} (hs : hs0 a) {l : List Nat} (hl : inK a l) : floA a ≤ CL a l := by
  rw [← cst_sta]
  exact cst_CL0 hs hl (n := 0) (Nat.zero_le _)
