/-! ===== PURE: bits of small numbers; the common tests ===== -/
theorem nI_bv (a : Nat) : (nI a).toBitVec = BitVec.ofNat 32 a := rfl
theorem nI_or (a b : Nat) : nI a ||| nI b = nI (a ||| b) := by
  apply Int32.toBitVec_inj.mp
  rw [Int32.toBitVec_or, nI_bv, nI_bv, nI_bv]
  apply BitVec.eq_of_toNat_eq
  simp only [BitVec.toNat_or, BitVec.toNat_ofNat]
  exact (Nat.or_mod_two_pow).symm
theorem nI_and (a b : Nat) : nI a &&& nI b = nI (a &&& b) := by
  apply Int32.toBitVec_inj.mp
  rw [Int32.toBitVec_and, nI_bv, nI_bv, nI_bv]
  apply BitVec.eq_of_toNat_eq
  simp only [BitVec.toNat_and, BitVec.toNat_ofNat]
  exact (Nat.and_mod_two_pow).symm
theorem nI_xor (a b : Nat) : nI a ^^^ nI b = nI (a ^^^ b) := by
  apply Int32.toBitVec_inj.mp
  rw [Int32.toBitVec_xor, nI_bv, nI_bv, nI_bv]
  apply BitVec.eq_of_toNat_eq
  simp only [BitVec.toNat_xor, BitVec.toNat_ofNat]
  exact (Nat.xor_mod_two_pow).symm
theorem nI_m1 : (-1 : Int32) = nI 4294967295 := by decide
theorem sh_l : ∀ n, n < 32 → ((nI n &&& 31).toBitVec.smod 32).toNat = n := by decide
theorem nI_shr {b k : Nat} (hb : b < 2 ^ 31) (hk : k < 32) : nI b >>> (nI k &&& 31) = nI (b / 2 ^ k) := pk_shrN hb _ k (sh_l k hk)
theorem nI_shl1 {k : Nat} (hk : k < 32) : (1 : Int32) <<< (nI k &&& 31) = nI (2 ^ k) := by
  have h : (1 * 2 ^ k) < 2 ^ 32 := by rw [Nat.one_mul]; exact Nat.pow_lt_pow_right (by decide) hk
  have e := pk_shlN (n := 1) (nI k &&& 31) k (sh_l k hk) h
  rw [Nat.one_mul] at e
  exact e
theorem bit_get {b k : Nat} (hb : b < 2 ^ 31) (hk : k < 32) : (nI b >>> (nI k &&& 31)) &&& 1 = if b.testBit k then 1 else 0 := by
  rw [nI_shr hb hk, show (1 : Int32) = nI 1 from rfl, nI_and, Nat.and_one_is_mod, Nat.testBit_eq_decide_div_mod_eq]
  by_cases h : b / 2 ^ k % 2 = 1
  · simp [h]
  · have : b / 2 ^ k % 2 = 0 := by omega
    simp [this]; rfl
theorem bit_zero {b k : Nat} (hb : b < 2 ^ 31) (hk : k < 32) : ((nI b >>> (nI k &&& 31)) &&& 1 = 0) ↔ b.testBit k = false := by
  rw [bit_get hb hk]
  cases b.testBit k <;> simp
theorem testBit_set (b k j : Nat) : (b ||| 2 ^ k).testBit j = (b.testBit j || decide (k = j)) := by
  rw [Nat.testBit_or, Nat.testBit_two_pow]
def andN (a b : Nat) : Nat := a &&& (b ^^^ 4294967295)
theorem nI_andN (a b : Nat) : nI a &&& (nI b ^^^ -1) = nI (andN a b) := by rw [nI_m1, nI_xor, nI_and]; rfl
theorem andN_bit (a b j : Nat) (hj : j < 32) : (andN a b).testBit j = (a.testBit j && !b.testBit j) := by
  unfold andN
  rw [Nat.testBit_and, Nat.testBit_xor]
  have : (4294967295 : Nat).testBit j = true := by
    rw [show (4294967295 : Nat) = 2 ^ 32 - 1 from rfl, Nat.testBit_two_pow_sub_one]
    simp [hj]
  rw [this]; simp
theorem andN_le (a b : Nat) : andN a b ≤ a := Nat.and_le_left
theorem or_lt {a b n : Nat} (ha : a < 2 ^ n) (hb : b < 2 ^ n) : a ||| b < 2 ^ n := Nat.or_lt_two_pow ha hb
/-- the tests of the class -/
theorem xBelow_no {x y : Int32} {n : Nat} {σ : ST} (hy : y = nI n) (h : x < 0 ∨ nI n ≤ x) : fX10_isBelow x y σ = some (0, σ) := by
  subst hy; unfold fX10_isBelow
  by_cases h0 : x < 0
  · rw [if_pos h0]
  · rw [if_neg h0, if_pos (h.resolve_left h0)]
theorem xBelow_yes {y : Int32} {j n : Nat} {σ : ST} (hy : y = nI n) (hj : j < n) (hn : n < 2 ^ 31) : fX10_isBelow (nI j) y σ = some (1, σ) := by
  subst hy; unfold fX10_isBelow
  rw [if_neg (nI_pos (Nat.lt_trans hj hn)), if_neg (nI_ge hj hn)]
theorem xStep_no {a : AS} {x : Int32} {σ : ST} (hX : XR a σ) (h : x < 0 ∨ nI (cS a 1) ≤ x) : fX4_hasStep x σ = some (0, σ) := by
  unfold fX4_hasStep
  by_cases h0 : x < 0
  · rw [if_pos h0]
  · rw [if_neg h0, show gI σ 10 = nI (cS a 1) from hX.2.2.2.2.2.1.1, if_pos (h.resolve_left h0)]
theorem xStep_yes {a : AS} {j : Nat} {σ : ST} (hX : gI σ 10 = nI (cS a 1)) (hK : cS a 1 ≤ 7) (hj : j < cS a 1) : fX4_hasStep (nI j) σ = some (1, σ) := by
  unfold fX4_hasStep
  rw [if_neg (nI_pos (by omega)), hX, if_neg (nI_ge hj (by omega)), show (7 : Int32) = nI 7 from rfl, if_neg (nI_ge (by omega) (by decide))]
theorem xIsRep {b j : Nat} {σ : ST} (hX : gI σ 11 = nI b) (hb : b < 128) (hj : j < 7) : fX4_isReport (nI j) σ = some (if b.testBit j then 1 else 0, σ) := by
  unfold fX4_isReport
  rw [hX]
  cases h : b.testBit j
  · rw [if_pos ((bit_zero (by omega) (by omega)).mpr h)]; rfl
  · rw [if_neg (fun q => by rw [bit_zero (by omega) (by omega), h] at q; cases q)]; rfl
theorem xHasRep {a : AS} {j : Nat} {σ : ST} (hX : gI σ 10 = nI (cS a 1)) (hR : gI σ 11 = nI (cS a 5)) (hK : cS a 1 ≤ 7) (hb : cS a 5 < 128) (hj : j < cS a 1) : fX4_hasReport (nI j) σ = some (if (cS a 5).testBit j then 1 else 0, σ) := by
  unfold fX4_hasReport
  rw [xStep_yes hX hK hj, Option.bind_some]
  simp only [if_neg (show ¬ ((1 : Int32) = 0) by decide)]
  rw [xIsRep hR hb (by omega), Option.bind_some]
  cases (cS a 5).testBit j <;> simp
theorem xHasRep_no {a : AS} {x : Int32} {σ : ST} (hX : XR a σ) (h : x < 0 ∨ nI (cS a 1) ≤ x) : fX4_hasReport x σ = some (0, σ) := by
  unfold fX4_hasReport
  rw [xStep_no hX h, Option.bind_some, if_pos rfl]
theorem xReader_no {a : AS} {x : Int32} {σ : ST} (hX : gI σ 15 = nI (cS a 2)) (h : x < 0 ∨ nI (cS a 2) ≤ x) : fX3_hasReader x σ = some (0, σ) := by
  unfold fX3_hasReader
  rw [xBelow_no hX h, Option.bind_some, if_pos rfl]
theorem xReader_yes {a : AS} {j : Nat} {σ : ST} (hX : gI σ 15 = nI (cS a 2)) (hn : cS a 2 ≤ 6) (hj : j < cS a 2) : fX3_hasReader (nI j) σ = some (1, σ) := by
  unfold fX3_hasReader
  rw [xBelow_yes hX hj (by omega), Option.bind_some]
  simp only [if_neg (show ¬ ((1 : Int32) = 0) by decide)]
  rw [show (6 : Int32) = nI 6 from rfl, if_neg (nI_ge (by omega) (by decide))]
theorem mReader_no {a : AS} {x : Int32} {τ : ST} (hM : gI τ 17 = nI (cS a 2)) (h : x < 0 ∨ nI (cS a 2) ≤ x) : fX11_isReader x τ = some (0, τ) := by
  unfold fX11_isReader
  by_cases h0 : x < 0
  · rw [if_pos h0]
  · rw [if_neg h0, hM, if_pos (h.resolve_left h0)]
theorem mReader_yes {a : AS} {j : Nat} {τ : ST} (hM : gI τ 17 = nI (cS a 2)) (hn : cS a 2 ≤ 6) (hj : j < cS a 2) : fX11_isReader (nI j) τ = some (1, τ) := by
  unfold fX11_isReader
  rw [if_neg (nI_pos (by omega)), hM, if_neg (nI_ge hj (by omega))]
theorem mStep_no {a : AS} {x : Int32} {v : Nat} {τ : ST} (hv : v < 2) (h1 : gI τ 11 = nI v) (h2 : gA τ 8 v = nI (cS a 1)) (h : x < 0 ∨ nI (cS a 1) ≤ x) : fX11_isStep x τ = some (0, τ) := by
  unfold fX11_isStep
  by_cases h0 : x < 0
  · rw [if_pos h0]
  · rw [if_neg h0, h1, if_pos (ix_nI hv (by decide)), ldA_nI _ _ _ (by omega), h2, if_pos (h.resolve_left h0)]
theorem mStep_yes {a : AS} {j v : Nat} {τ : ST} (hv : v < 2) (h1 : gI τ 11 = nI v) (h2 : gA τ 8 v = nI (cS a 1)) (hK : cS a 1 ≤ 7) (hj : j < cS a 1) : fX11_isStep (nI j) τ = some (1, τ) := by
  unfold fX11_isStep
  rw [if_neg (nI_pos (by omega)), h1, if_pos (ix_nI hv (by decide)), ldA_nI _ _ _ (by omega), h2, if_neg (nI_ge hj (by omega))]
theorem mTable_no {x : Int32} {τ : ST} (h : x < 0 ∨ nI 6 ≤ x) : fX11_isTable x τ = some (0, τ) := by
  unfold fX11_isTable
  by_cases h0 : x < 0
  · rw [if_pos h0]
  · rw [if_neg h0, show (6 : Int32) = nI 6 from rfl, if_pos (h.resolve_left h0)]
theorem mTable_yes {j : Nat} {τ : ST} (hj : j < 6) : fX11_isTable (nI j) τ = some (1, τ) := by
  unfold fX11_isTable
  rw [if_neg (nI_pos (by omega)), show (6 : Int32) = nI 6 from rfl, if_neg (nI_ge hj (by decide))]
theorem ix_or {x : Int32} {n : Nat} (hn : n < 2 ^ 31) : (x < 0 ∨ nI n ≤ x) ∨ ∃ j, j < n ∧ x = nI j := by
  rcases pk_ix x hn with h | h | h
  · exact Or.inl (Or.inl h)
  · exact Or.inl (Or.inr h)
  · exact Or.inr h
theorem one_ne : ¬ ((1 : Int32) = 0) := by decide
