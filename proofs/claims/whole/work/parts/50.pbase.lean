/-! ===== PURE: getters and setters, small numbers, the abstract state ===== -/
theorem gI_sI (σ : ST) (k j : Nat) (v : Int32) : gI (sI σ k v) j = if j = k then v else gI σ j := rfl
theorem gI_sL (σ : ST) (k j : Nat) (v : Int64) : gI (sL σ k v) j = gI σ j := rfl
theorem gI_sA (σ : ST) (k j : Nat) (f : Nat → Int32) : gI (sA σ k f) j = gI σ j := rfl
theorem gI_sB (σ : ST) (k j : Nat) (f : Nat → Int64) : gI (sB σ k f) j = gI σ j := rfl
theorem gL_sI (σ : ST) (k j : Nat) (v : Int32) : gL (sI σ k v) j = gL σ j := rfl
theorem gL_sL (σ : ST) (k j : Nat) (v : Int64) : gL (sL σ k v) j = if j = k then v else gL σ j := rfl
theorem gL_sA (σ : ST) (k j : Nat) (f : Nat → Int32) : gL (sA σ k f) j = gL σ j := rfl
theorem gL_sB (σ : ST) (k j : Nat) (f : Nat → Int64) : gL (sB σ k f) j = gL σ j := rfl
theorem gA_sI (σ : ST) (k j : Nat) (v : Int32) : gA (sI σ k v) j = gA σ j := rfl
theorem gA_sL (σ : ST) (k j : Nat) (v : Int64) : gA (sL σ k v) j = gA σ j := rfl
theorem gA_sA (σ : ST) (k j : Nat) (f : Nat → Int32) : gA (sA σ k f) j = if j = k then f else gA σ j := rfl
theorem gA_sB (σ : ST) (k j : Nat) (f : Nat → Int64) : gA (sB σ k f) j = gA σ j := rfl
theorem gB_sI (σ : ST) (k j : Nat) (v : Int32) : gB (sI σ k v) j = gB σ j := rfl
theorem gB_sL (σ : ST) (k j : Nat) (v : Int64) : gB (sL σ k v) j = gB σ j := rfl
theorem gB_sA (σ : ST) (k j : Nat) (f : Nat → Int32) : gB (sA σ k f) j = gB σ j := rfl
theorem gB_sB (σ : ST) (k j : Nat) (f : Nat → Int64) : gB (sB σ k f) j = if j = k then f else gB σ j := rfl
theorem stA_nI (σ : ST) (k : Nat) (j : Nat) (x : Int32) (h : j < 2 ^ 31) : stA σ k (nI j) x = sA σ k (upd (gA σ k) j x) := by
  unfold stA; rw [nI_clamp h]
theorem stB_nI (σ : ST) (k : Nat) (j : Nat) (x : Int64) (h : j < 2 ^ 31) : stB σ k (nI j) x = sB σ k (vp_updL (gB σ k) j x) := by
  unfold stB; rw [nI_clamp h]
theorem ldA_nI (σ : ST) (k : Nat) (j : Nat) (h : j < 2 ^ 31) : ldA σ k (nI j) = gA σ k j := by
  unfold ldA; rw [nI_clamp h]
theorem ldB_nI (σ : ST) (k : Nat) (j : Nat) (h : j < 2 ^ 31) : ldB σ k (nI j) = gB σ k j := by
  unfold ldB; rw [nI_clamp h]
theorem ix_nI {j n : Nat} (h : j < n) (hn : n < 2 ^ 31) : ix (nI j) n := nI_in h hn
theorem upd_at (f : Nat → Int32) (k j : Nat) (x : Int32) : upd f k x j = if j = k then x else f j := by
  by_cases h : j = k
  · subst h; rw [pk_us, if_pos rfl]
  · rw [pk_un h, if_neg h]
theorem updL_at (f : Nat → Int64) (k j : Nat) (x : Int64) : vp_updL f k x j = if j = k then x else f j := by
  by_cases h : j = k
  · subst h; rw [pk_uLs, if_pos rfl]
  · rw [pk_uLn h, if_neg h]
theorem lt_def {α β : Type} (v : α) (f : α → β) : lt v f = f v := rfl
/-- the abstract state: numbers, rows of numbers, rows of ints, rows of longs -/
abbrev AS : Type := (Nat → Nat) × (Nat → Nat → Nat) × (Nat → Nat → Int32) × (Nat → Nat → Int64)
def cS (a : AS) (k : Nat) : Nat := a.1 k
def cN (a : AS) (k : Nat) : Nat → Nat := a.2.1 k
def cI (a : AS) (k : Nat) : Nat → Int32 := a.2.2.1 k
def cL (a : AS) (k : Nat) : Nat → Int64 := a.2.2.2 k
def tS (a : AS) (k v : Nat) : AS := (fun j => if j = k then v else a.1 j, a.2)
def tN (a : AS) (k : Nat) (f : Nat → Nat) : AS := (a.1, fun j => if j = k then f else a.2.1 j, a.2.2)
def tI (a : AS) (k : Nat) (f : Nat → Int32) : AS := (a.1, a.2.1, fun j => if j = k then f else a.2.2.1 j, a.2.2.2)
def tL (a : AS) (k : Nat) (f : Nat → Int64) : AS := (a.1, a.2.1, a.2.2.1, fun j => if j = k then f else a.2.2.2 j)
theorem cS_tS (a : AS) (k j v : Nat) : cS (tS a k v) j = if j = k then v else cS a j := rfl
theorem cS_tN (a : AS) (k j : Nat) (f : Nat → Nat) : cS (tN a k f) j = cS a j := rfl
theorem cS_tI (a : AS) (k j : Nat) (f : Nat → Int32) : cS (tI a k f) j = cS a j := rfl
theorem cS_tL (a : AS) (k j : Nat) (f : Nat → Int64) : cS (tL a k f) j = cS a j := rfl
theorem cN_tS (a : AS) (k j v : Nat) : cN (tS a k v) j = cN a j := rfl
theorem cN_tN (a : AS) (k j : Nat) (f : Nat → Nat) : cN (tN a k f) j = if j = k then f else cN a j := rfl
theorem cN_tI (a : AS) (k j : Nat) (f : Nat → Int32) : cN (tI a k f) j = cN a j := rfl
theorem cN_tL (a : AS) (k j : Nat) (f : Nat → Int64) : cN (tL a k f) j = cN a j := rfl
theorem cI_tS (a : AS) (k j v : Nat) : cI (tS a k v) j = cI a j := rfl
theorem cI_tN (a : AS) (k j : Nat) (f : Nat → Nat) : cI (tN a k f) j = cI a j := rfl
theorem cI_tI (a : AS) (k j : Nat) (f : Nat → Int32) : cI (tI a k f) j = if j = k then f else cI a j := rfl
theorem cI_tL (a : AS) (k j : Nat) (f : Nat → Int64) : cI (tL a k f) j = cI a j := rfl
theorem cL_tS (a : AS) (k j v : Nat) : cL (tS a k v) j = cL a j := rfl
theorem cL_tN (a : AS) (k j : Nat) (f : Nat → Nat) : cL (tN a k f) j = cL a j := rfl
theorem cL_tI (a : AS) (k j : Nat) (f : Nat → Int32) : cL (tI a k f) j = cL a j := rfl
theorem cL_tL (a : AS) (k j : Nat) (f : Nat → Int64) : cL (tL a k f) j = if j = k then f else cL a j := rfl
def uN (f : Nat → Nat) (k v : Nat) : Nat → Nat := fun j => if j = k then v else f j
theorem uN_at (f : Nat → Nat) (k v j : Nat) : uN f k v j = if j = k then v else f j := rfl
/-- sums, counts and mosts of rows o .. o + n - 1 of a group -/
def fgS (gr : Nat → Nat) (va : Nat → Int32) (o g : Nat) : Nat → Int64
  | 0 => 0
  | n + 1 => if gr (o + n) = g then fgS gr va o g n + (va (o + n)).toInt64 else fgS gr va o g n
def fgC (gr : Nat → Nat) (o g : Nat) : Nat → Nat
  | 0 => 0
  | n + 1 => if gr (o + n) = g then fgC gr o g n + 1 else fgC gr o g n
def fgM (gr : Nat → Nat) (va : Nat → Int32) (o g : Nat) : Nat → Int64
  | 0 => 0
  | n + 1 => if gr (o + n) = g then (if fgC gr o g n = 0 then (va (o + n)).toInt64 else if fgM gr va o g n < (va (o + n)).toInt64 then (va (o + n)).toInt64 else fgM gr va o g n) else fgM gr va o g n
/-- numbers: S0 tape's length, S1 steps, S2 readers, S3 now, S4 hosts, S5 report bits, S6 done bits, S7 held bits, S8 landed bits, S9 code's length, S10 all marks;
rows: N0 takes N1 due N2 weight N3 own tables N4 own parts N5 all tables N6 states N7 loaded N8 rows N9 span's begin N10 its end N11 rights N12 at host (step + 1, or 0) N13 order N14 done at N15 times done N16 worked N17 read by N18 marks N19 code kinds N20 operands N21 code ends N22 loaded groups N23 rows' groups;
ints: I0 bytes I1 place (at 0) I2 loaded values I3 rows' values; longs: L0 values L1 what went -/
def xTape (a : AS) (σ : ST) : Prop := gI σ 0 = nI (cS a 0) ∧ ∀ i, i < cS a 0 → gA σ 2 i = cI a 0 i
def mTape (a : AS) (τ : ST) : Prop := gI τ 1 = nI (cS a 0) ∧ ∀ i, i < cS a 0 → gA τ 1 i = cI a 0 i
def xPlace (a : AS) (σ : ST) : Prop := gI σ 3 = cI a 1 0
def mPlace (a : AS) (τ : ST) : Prop := gI τ 10 = cI a 1 0
def xSpan (a : AS) (σ : ST) : Prop := ∀ x, x < 6 → gA σ 34 x = nI (cN a 9 x) ∧ gA σ 35 x = nI (cN a 10 x)
def mSpan (a : AS) (τ : ST) : Prop := ∀ x, x < 6 → gA τ 22 x = nI (cN a 9 x) ∧ gA τ 23 x = nI (cN a 10 x)
def xTab (a : AS) (σ : ST) : Prop := gI σ 13 = nI (cS a 8) ∧ (∀ x, x < 6 → gA σ 31 x = nI (cN a 6 x) ∧ gA σ 33 x = nI (cN a 7 x) ∧ gA σ 32 x = nI (cN a 8 x)) ∧
  (∀ x g, x < 6 → g < 8 → gB σ 41 (8 * x + g) = fgS (cN a 22) (cI a 2) (40 * x) g (cN a 7 x) ∧ gB σ 42 (8 * x + g) = lN (fgC (cN a 22) (40 * x) g (cN a 7 x)) ∧ gB σ 43 (8 * x + g) = fgM (cN a 22) (cI a 2) (40 * x) g (cN a 7 x)) ∧
  (∀ x g, x < 6 → g < 8 → gB σ 37 (8 * x + g) = fgS (cN a 23) (cI a 3) (40 * x) g (cN a 8 x) ∧ gB σ 38 (8 * x + g) = lN (fgC (cN a 23) (40 * x) g (cN a 8 x)) ∧ gB σ 39 (8 * x + g) = fgM (cN a 23) (cI a 3) (40 * x) g (cN a 8 x))
def mTab (a : AS) (τ : ST) : Prop := (∀ x, x < 6 → gA τ 24 x = nI (cN a 6 x) ∧ gA τ 25 x = nI (cN a 7 x) ∧ gA τ 28 x = nI (cN a 8 x)) ∧
  (∀ x i, x < 6 → i < cN a 7 x → gA τ 26 (40 * x + i) = nI (cN a 22 (40 * x + i)) ∧ gA τ 27 (40 * x + i) = cI a 2 (40 * x + i)) ∧
  (∀ x i, x < 6 → i < cN a 8 x → gA τ 29 (40 * x + i) = nI (cN a 23 (40 * x + i)) ∧ gA τ 30 (40 * x + i) = cI a 3 (40 * x + i))
def xRead (a : AS) (σ : ST) : Prop := gI σ 15 = nI (cS a 2) ∧ gI σ 16 = nI (cS a 7) ∧ ∀ r, r < cS a 2 → gA σ 48 r = nI (cN a 11 r)
def mRead (a : AS) (τ : ST) : Prop := gI τ 17 = nI (cS a 2) ∧ ∀ r, r < cS a 2 → gA τ 31 r = nI (cN a 11 r) ∧ gA τ 32 r = if (cS a 7).testBit r then 1 else 0
def xopOf (k : Nat) : Int32 := if k = 0 then 257 else if k = 1 then 265 else if k = 2 then 266 else if k = 3 then 267 else if k = 4 then 256 else if k = 5 then 43 else if k = 6 then 45 else if k = 7 then 42 else 268
def xScr (a : AS) (σ : ST) : Prop := gI σ 10 = nI (cS a 1) ∧ gI σ 11 = nI (cS a 5) ∧
  (∀ k, k < cS a 1 → gA σ 21 k = nI (cN a 0 k) ∧ gA σ 22 k = nI (cN a 1 k) ∧ gA σ 23 k = nI (cN a 2 k) ∧ gA σ 24 k = nI (cN a 3 k) ∧ gA σ 25 k = nI (cN a 4 k) ∧ gA σ 26 k = nI (cN a 5 k) ∧ gA σ 27 k = nI (cN a 21 k)) ∧
  (∀ i, i < cS a 9 → gA σ 28 i = xopOf (cN a 19 i) ∧ gA σ 29 i = nI (cN a 20 i))
def mScr (a : AS) (τ : ST) : Prop := ∃ v : Nat, v < 2 ∧ gI τ 11 = nI v ∧ gA τ 8 v = nI (cS a 1) ∧
  (∀ k, k < cS a 1 → gA τ 10 (7 * v + k) = (if (cS a 5).testBit k then 1 else 0) ∧ gA τ 11 (7 * v + k) = nI (cN a 0 k) ∧ gA τ 12 (7 * v + k) = nI (cN a 1 k) ∧ gA τ 13 (7 * v + k) = nI (cN a 2 k) ∧ gA τ 16 (7 * v + k) = nI (cN a 3 k) ∧ gA τ 17 (7 * v + k) = nI (cN a 4 k) ∧ gA τ 18 (7 * v + k) = nI (cN a 5 k) ∧
    gA τ 14 (7 * v + k) = nI (500 * v + (if k = 0 then 0 else cN a 21 (k - 1))) ∧ gA τ 15 (7 * v + k) = nI (500 * v + cN a 21 k)) ∧
  (∀ i, i < cS a 9 → gA τ 19 (500 * v + i) = nI (cN a 19 i) ∧ gA τ 20 (500 * v + i) = nI (cN a 20 i))
def xWrk (a : AS) (σ : ST) : Prop := gI σ 18 = nI (cS a 3) ∧ gI σ 19 = nI (cS a 4) ∧ gI σ 20 = nI (cS a 6) ∧
  (∃ w : Nat, w < 128 ∧ gI σ 21 = nI w ∧ ∀ k, k < 7 → (w.testBit k = true ↔ ∃ h, h < 3 ∧ cN a 12 h = k + 1)) ∧
  (∀ h, h < 3 → gA σ 53 h = if cN a 12 h = 0 then -1 else nI (cN a 12 h - 1)) ∧
  (∀ k, k < 7 → gA σ 54 k = nI (cN a 13 k)) ∧
  (∀ k, k < cS a 1 → gA σ 56 k = nI (cN a 15 k)) ∧
  (∀ k, k < cS a 1 → (cS a 6).testBit k = true → gA σ 55 k = nI (cN a 14 k)) ∧
  (∀ k, k < cS a 1 → (cS a 6).testBit k = true → ∀ g, g < 8 → gB σ 45 (8 * k + g) = cL a 0 (8 * k + g)) ∧
  (∀ h, h < 3 → cN a 12 h ≠ 0 → gA σ 57 (cN a 12 h - 1) = nI (cN a 16 (cN a 12 h - 1)))
def mWrk (a : AS) (τ : ST) : Prop := gI τ 18 = nI (cS a 3) ∧ gI τ 19 = nI (cS a 4) ∧
  (∀ h, h < 3 → gA τ 33 h = if cN a 12 h = 0 then -1 else nI (cN a 12 h - 1)) ∧
  (∀ k, k < 7 → gA τ 34 k = nI (cN a 13 k)) ∧
  (∀ k, k < cS a 1 → gA τ 36 k = nI (cN a 15 k)) ∧
  (∀ k, k < cS a 1 → gA τ 35 k = if (cS a 6).testBit k then nI (cN a 14 k) else -1) ∧
  (∀ k, k < cS a 1 → (cS a 6).testBit k = true → ∀ g, g < 8 → gB τ 38 (8 * k + g) = cL a 0 (8 * k + g)) ∧
  (∀ h, h < 3 → cN a 12 h ≠ 0 → gA τ 37 (cN a 12 h - 1) = nI (cN a 16 (cN a 12 h - 1)))
def xPost (a : AS) (σ : ST) : Prop := gI σ 17 = nI (cS a 10) ∧ (∀ k, k < 7 → gA σ 49 k = nI (cN a 17 k)) ∧ (∀ i, i < 42 → gA σ 50 i = nI (cN a 18 i)) ∧ (∀ i, i < 336 → gB σ 51 i = cL a 1 i)
def mPost (a : AS) (τ : ST) : Prop := (∀ k r, k < 7 → r < 6 → gA τ 39 (6 * k + r) = (if (cN a 17 k).testBit r then 1 else 0)) ∧ (∀ i, i < 42 → gA τ 41 i = nI (cN a 18 i) ∧ gA τ 40 i = if cN a 18 i = 0 then 0 else 1) ∧ (∀ i, i < 336 → gB τ 42 i = cL a 1 i)
def sumTo (f : Nat → Nat) : Nat → Nat
  | 0 => 0
  | n + 1 => sumTo f n + f n
def wfA (t : Nat) (a : AS) : Prop :=
  cS a 0 ≤ 2000 ∧ (∀ x, x < 6 → cN a 9 x ≤ 399 ∧ cN a 10 x ≤ 399) ∧
  (cS a 8 < 64 ∧ ∀ x, x < 6 → cN a 6 x ≤ t ∧ cN a 7 x ≤ 40 ∧ cN a 8 x ≤ 40 ∧ ((cS a 8).testBit x = true ↔ 0 < cN a 6 x) ∧ (∀ i, i < cN a 7 x → cN a 22 (40 * x + i) < 8) ∧ (∀ i, i < cN a 8 x → cN a 23 (40 * x + i) < 8)) ∧
  (cS a 2 ≤ 6 ∧ cS a 7 < 2 ^ cS a 2 ∧ ∀ r, r < cS a 2 → cN a 11 r < 256)
def wfB (t : Nat) (a : AS) : Prop :=
  (cS a 1 ≤ 7 ∧ cS a 5 < 128 ∧ cS a 9 ≤ 400 ∧ ∀ k, k < cS a 1 → 1 ≤ cN a 0 k ∧ cN a 0 k ≤ 20 ∧ cN a 1 k ≤ 399 ∧ cN a 2 k ≤ 100 ∧ ((cS a 5).testBit k = false → cN a 1 k = 0 ∧ cN a 2 k = 0) ∧ cN a 3 k < 64 ∧ cN a 4 k < 2 ^ k ∧ cN a 5 k < 64 ∧
    (∀ x, (cN a 3 k).testBit x = true → (cN a 5 k).testBit x = true) ∧ (∀ j, (cN a 4 k).testBit j = true → ∀ x, (cN a 5 j).testBit x = true → (cN a 5 k).testBit x = true)) ∧
  (cS a 3 ≤ 399 ∧ 1 ≤ cS a 4 ∧ cS a 4 ≤ 3 ∧ cS a 6 < 2 ^ cS a 1) ∧
  (∀ h, h < 3 → cN a 12 h ≤ cS a 1) ∧ (∀ h h', h < 3 → h' < 3 → cN a 12 h ≠ 0 → cN a 12 h = cN a 12 h' → h = h') ∧ (∀ h, cS a 4 ≤ h → h < 3 → cN a 12 h = 0) ∧
  (∀ h, h < 3 → cN a 12 h ≠ 0 → 1 ≤ cN a 16 (cN a 12 h - 1) ∧ cN a 16 (cN a 12 h - 1) < cN a 0 (cN a 12 h - 1) ∧ (cS a 6).testBit (cN a 12 h - 1) = false) ∧
  (∀ k, k < cS a 1 → (cS a 6).testBit k = true → cN a 14 k ≤ cS a 3) ∧
  (∀ k, k < cS a 1 → ((cS a 6).testBit k = true ∨ ∃ h, h < 3 ∧ cN a 12 h = k + 1) → (∀ j, (cN a 4 k).testBit j = true → (cS a 6).testBit j = true) ∧ ∀ x, (cN a 3 k).testBit x = true → (cS a 8).testBit x = true) ∧
  (∀ i, i < cS a 1 → cN a 13 i < cS a 1) ∧ (∀ i j, i < cS a 1 → j < cS a 1 → cN a 13 i = cN a 13 j → i = j)
def wfC (t : Nat) (a : AS) : Prop :=
  (∀ k, k < 7 → cN a 17 k < 2 ^ cS a 2 ∧ (cN a 17 k ≠ 0 → k < cS a 1 ∧ (cS a 5).testBit k = true)) ∧ (∀ i, i < 42 → cN a 18 i ≤ 20 * t) ∧ cS a 10 = sumTo (cN a 18) 42 ∧
  (∀ k r g, k < 7 → r < 6 → g < 8 → (cS a 5).testBit k = false → cL a 1 (8 * (6 * k + r) + g) = 0)
def XR (a : AS) (σ : ST) : Prop := xTape a σ ∧ xPlace a σ ∧ xSpan a σ ∧ xTab a σ ∧ xRead a σ ∧ xScr a σ ∧ xWrk a σ ∧ xPost a σ
def MR (a : AS) (τ : ST) : Prop := mTape a τ ∧ mPlace a τ ∧ mSpan a τ ∧ mTab a τ ∧ mRead a τ ∧ mScr a τ ∧ mWrk a τ ∧ mPost a τ
