/-! ===== PURE: frames: what a stretch leaves alone ===== -/
def fr (I A B : List Nat) (σ σ' : ST) : Prop := (∀ k, k ∉ I → gI σ' k = gI σ k) ∧ (∀ k, k ∉ A → gA σ' k = gA σ k) ∧ (∀ k, k ∉ B → gB σ' k = gB σ k)
theorem fr_rf {I A B : List Nat} {σ : ST} : fr I A B σ σ := ⟨fun _ _ => rfl, fun _ _ => rfl, fun _ _ => rfl⟩
theorem fr_tr {I A B : List Nat} {σ σ1 σ2 : ST} (h1 : fr I A B σ σ1) (h2 : fr I A B σ1 σ2) : fr I A B σ σ2 := ⟨fun k h => (h2.1 k h).trans (h1.1 k h), fun k h => (h2.2.1 k h).trans (h1.2.1 k h), fun k h => (h2.2.2 k h).trans (h1.2.2 k h)⟩
theorem fr_up {I A B I' A' B' : List Nat} {σ σ' : ST} (h : fr I A B σ σ') (hI : ∀ k ∈ I, k ∈ I') (hA : ∀ k ∈ A, k ∈ A') (hB : ∀ k ∈ B, k ∈ B') : fr I' A' B' σ σ' := ⟨fun k q => h.1 k (fun z => q (hI k z)), fun k q => h.2.1 k (fun z => q (hA k z)), fun k q => h.2.2 k (fun z => q (hB k z))⟩
theorem fr_sI {I A B : List Nat} {σ σ1 : ST} {k : Nat} {v : Int32} (h : fr I A B σ σ1) (hk : k ∈ I) : fr I A B σ (sI σ1 k v) := ⟨fun j q => by rw [gI_sI, if_neg (fun e : j = k => q (by rw [e]; exact hk))]; exact h.1 j q, h.2.1, h.2.2⟩
theorem fr_sL {I A B : List Nat} {σ σ1 : ST} {k : Nat} {v : Int64} (h : fr I A B σ σ1) : fr I A B σ (sL σ1 k v) := ⟨h.1, h.2.1, h.2.2⟩
theorem fr_sA {I A B : List Nat} {σ σ1 : ST} {k : Nat} {f : Nat → Int32} (h : fr I A B σ σ1) (hk : k ∈ A) : fr I A B σ (sA σ1 k f) := ⟨h.1, fun j q => by rw [gA_sA, if_neg (fun e : j = k => q (by rw [e]; exact hk))]; exact h.2.1 j q, h.2.2⟩
theorem fr_sB {I A B : List Nat} {σ σ1 : ST} {k : Nat} {f : Nat → Int64} (h : fr I A B σ σ1) (hk : k ∈ B) : fr I A B σ (sB σ1 k f) := ⟨h.1, h.2.1, fun j q => by rw [gB_sB, if_neg (fun e : j = k => q (by rw [e]; exact hk))]; exact h.2.2 j q⟩
theorem xTape_eq {a : AS} {σ σ' : ST} (h : xTape a σ) (i0 : gI σ' 0 = gI σ 0) (a2 : gA σ' 2 = gA σ 2) : xTape a σ' := by
  unfold xTape at *
  simp only [i0, a2]
  exact h
theorem mTape_eq {a : AS} {σ σ' : ST} (h : mTape a σ) (i1 : gI σ' 1 = gI σ 1) (a1 : gA σ' 1 = gA σ 1) : mTape a σ' := by
  unfold mTape at *
  simp only [i1, a1]
  exact h
theorem xPlace_eq {a : AS} {σ σ' : ST} (h : xPlace a σ) (i3 : gI σ' 3 = gI σ 3) : xPlace a σ' := by
  unfold xPlace at *
  simp only [i3]
  exact h
theorem mPlace_eq {a : AS} {σ σ' : ST} (h : mPlace a σ) (i10 : gI σ' 10 = gI σ 10) : mPlace a σ' := by
  unfold mPlace at *
  simp only [i10]
  exact h
theorem xSpan_eq {a : AS} {σ σ' : ST} (h : xSpan a σ) (a34 : gA σ' 34 = gA σ 34) (a35 : gA σ' 35 = gA σ 35) : xSpan a σ' := by
  unfold xSpan at *
  simp only [a34, a35]
  exact h
theorem mSpan_eq {a : AS} {σ σ' : ST} (h : mSpan a σ) (a22 : gA σ' 22 = gA σ 22) (a23 : gA σ' 23 = gA σ 23) : mSpan a σ' := by
  unfold mSpan at *
  simp only [a22, a23]
  exact h
theorem xTab_eq {a : AS} {σ σ' : ST} (h : xTab a σ) (i13 : gI σ' 13 = gI σ 13) (a31 : gA σ' 31 = gA σ 31) (a32 : gA σ' 32 = gA σ 32) (a33 : gA σ' 33 = gA σ 33) (b37 : gB σ' 37 = gB σ 37) (b38 : gB σ' 38 = gB σ 38) (b39 : gB σ' 39 = gB σ 39) (b41 : gB σ' 41 = gB σ 41) (b42 : gB σ' 42 = gB σ 42) (b43 : gB σ' 43 = gB σ 43) : xTab a σ' := by
  unfold xTab at *
  simp only [i13, a31, a32, a33, b37, b38, b39, b41, b42, b43]
  exact h
theorem mTab_eq {a : AS} {σ σ' : ST} (h : mTab a σ) (a24 : gA σ' 24 = gA σ 24) (a25 : gA σ' 25 = gA σ 25) (a26 : gA σ' 26 = gA σ 26) (a27 : gA σ' 27 = gA σ 27) (a28 : gA σ' 28 = gA σ 28) (a29 : gA σ' 29 = gA σ 29) (a30 : gA σ' 30 = gA σ 30) : mTab a σ' := by
  unfold mTab at *
  simp only [a24, a25, a26, a27, a28, a29, a30]
  exact h
theorem xRead_eq {a : AS} {σ σ' : ST} (h : xRead a σ) (i15 : gI σ' 15 = gI σ 15) (i16 : gI σ' 16 = gI σ 16) (a48 : gA σ' 48 = gA σ 48) : xRead a σ' := by
  unfold xRead at *
  simp only [i15, i16, a48]
  exact h
theorem mRead_eq {a : AS} {σ σ' : ST} (h : mRead a σ) (i17 : gI σ' 17 = gI σ 17) (a31 : gA σ' 31 = gA σ 31) (a32 : gA σ' 32 = gA σ 32) : mRead a σ' := by
  unfold mRead at *
  simp only [i17, a31, a32]
  exact h
theorem xScr_eq {a : AS} {σ σ' : ST} (h : xScr a σ) (i10 : gI σ' 10 = gI σ 10) (i11 : gI σ' 11 = gI σ 11) (a21 : gA σ' 21 = gA σ 21) (a22 : gA σ' 22 = gA σ 22) (a23 : gA σ' 23 = gA σ 23) (a24 : gA σ' 24 = gA σ 24) (a25 : gA σ' 25 = gA σ 25) (a26 : gA σ' 26 = gA σ 26) (a27 : gA σ' 27 = gA σ 27) (a28 : gA σ' 28 = gA σ 28) (a29 : gA σ' 29 = gA σ 29) : xScr a σ' := by
  unfold xScr at *
  simp only [i10, i11, a21, a22, a23, a24, a25, a26, a27, a28, a29]
  exact h
theorem mScr_eq {a : AS} {σ σ' : ST} (h : mScr a σ) (i11 : gI σ' 11 = gI σ 11) (a8 : gA σ' 8 = gA σ 8) (a10 : gA σ' 10 = gA σ 10) (a11 : gA σ' 11 = gA σ 11) (a12 : gA σ' 12 = gA σ 12) (a13 : gA σ' 13 = gA σ 13) (a14 : gA σ' 14 = gA σ 14) (a15 : gA σ' 15 = gA σ 15) (a16 : gA σ' 16 = gA σ 16) (a17 : gA σ' 17 = gA σ 17) (a18 : gA σ' 18 = gA σ 18) (a19 : gA σ' 19 = gA σ 19) (a20 : gA σ' 20 = gA σ 20) : mScr a σ' := by
  unfold mScr at *
  simp only [i11, a8, a10, a11, a12, a13, a14, a15, a16, a17, a18, a19, a20]
  exact h
theorem xWrk_eq {a : AS} {σ σ' : ST} (h : xWrk a σ) (i18 : gI σ' 18 = gI σ 18) (i19 : gI σ' 19 = gI σ 19) (i20 : gI σ' 20 = gI σ 20) (i21 : gI σ' 21 = gI σ 21) (a53 : gA σ' 53 = gA σ 53) (a54 : gA σ' 54 = gA σ 54) (a55 : gA σ' 55 = gA σ 55) (a56 : gA σ' 56 = gA σ 56) (a57 : gA σ' 57 = gA σ 57) (b45 : gB σ' 45 = gB σ 45) : xWrk a σ' := by
  unfold xWrk at *
  simp only [i18, i19, i20, i21, a53, a54, a55, a56, a57, b45]
  exact h
theorem mWrk_eq {a : AS} {σ σ' : ST} (h : mWrk a σ) (i18 : gI σ' 18 = gI σ 18) (i19 : gI σ' 19 = gI σ 19) (a33 : gA σ' 33 = gA σ 33) (a34 : gA σ' 34 = gA σ 34) (a35 : gA σ' 35 = gA σ 35) (a36 : gA σ' 36 = gA σ 36) (a37 : gA σ' 37 = gA σ 37) (b38 : gB σ' 38 = gB σ 38) : mWrk a σ' := by
  unfold mWrk at *
  simp only [i18, i19, a33, a34, a35, a36, a37, b38]
  exact h
theorem xPost_eq {a : AS} {σ σ' : ST} (h : xPost a σ) (i17 : gI σ' 17 = gI σ 17) (a49 : gA σ' 49 = gA σ 49) (a50 : gA σ' 50 = gA σ 50) (b51 : gB σ' 51 = gB σ 51) : xPost a σ' := by
  unfold xPost at *
  simp only [i17, a49, a50, b51]
  exact h
theorem mPost_eq {a : AS} {σ σ' : ST} (h : mPost a σ) (a39 : gA σ' 39 = gA σ 39) (a40 : gA σ' 40 = gA σ 40) (a41 : gA σ' 41 = gA σ 41) (b42 : gB σ' 42 = gB σ 42) : mPost a σ' := by
  unfold mPost at *
  simp only [a39, a40, a41, b42]
  exact h
theorem mKeys_fr {I A B : List Nat} {τ τ' : ST} (f : fr I A B τ τ') (hB : 7 ∉ B) (h : mKeys τ) : mKeys τ' := by
  unfold mKeys at *
  rw [f.2.2 7 hB]
  exact h
theorem xTape_fr {a : AS} {I A B : List Nat} {σ σ' : ST} (f : fr I A B σ σ') (h : xTape a σ) (hi : ∀ k ∈ ([0] : List Nat), k ∉ I) (ha : ∀ k ∈ ([2] : List Nat), k ∉ A) (hb : ∀ k ∈ ([] : List Nat), k ∉ B) : xTape a σ' := xTape_eq h (f.1 0 (hi 0 (by decide))) (f.2.1 2 (ha 2 (by decide)))
theorem mTape_fr {a : AS} {I A B : List Nat} {σ σ' : ST} (f : fr I A B σ σ') (h : mTape a σ) (hi : ∀ k ∈ ([1] : List Nat), k ∉ I) (ha : ∀ k ∈ ([1] : List Nat), k ∉ A) (hb : ∀ k ∈ ([] : List Nat), k ∉ B) : mTape a σ' := mTape_eq h (f.1 1 (hi 1 (by decide))) (f.2.1 1 (ha 1 (by decide)))
theorem xPlace_fr {a : AS} {I A B : List Nat} {σ σ' : ST} (f : fr I A B σ σ') (h : xPlace a σ) (hi : ∀ k ∈ ([3] : List Nat), k ∉ I) (ha : ∀ k ∈ ([] : List Nat), k ∉ A) (hb : ∀ k ∈ ([] : List Nat), k ∉ B) : xPlace a σ' := xPlace_eq h (f.1 3 (hi 3 (by decide)))
theorem mPlace_fr {a : AS} {I A B : List Nat} {σ σ' : ST} (f : fr I A B σ σ') (h : mPlace a σ) (hi : ∀ k ∈ ([10] : List Nat), k ∉ I) (ha : ∀ k ∈ ([] : List Nat), k ∉ A) (hb : ∀ k ∈ ([] : List Nat), k ∉ B) : mPlace a σ' := mPlace_eq h (f.1 10 (hi 10 (by decide)))
theorem xSpan_fr {a : AS} {I A B : List Nat} {σ σ' : ST} (f : fr I A B σ σ') (h : xSpan a σ) (hi : ∀ k ∈ ([] : List Nat), k ∉ I) (ha : ∀ k ∈ ([34, 35] : List Nat), k ∉ A) (hb : ∀ k ∈ ([] : List Nat), k ∉ B) : xSpan a σ' := xSpan_eq h (f.2.1 34 (ha 34 (by decide))) (f.2.1 35 (ha 35 (by decide)))
theorem mSpan_fr {a : AS} {I A B : List Nat} {σ σ' : ST} (f : fr I A B σ σ') (h : mSpan a σ) (hi : ∀ k ∈ ([] : List Nat), k ∉ I) (ha : ∀ k ∈ ([22, 23] : List Nat), k ∉ A) (hb : ∀ k ∈ ([] : List Nat), k ∉ B) : mSpan a σ' := mSpan_eq h (f.2.1 22 (ha 22 (by decide))) (f.2.1 23 (ha 23 (by decide)))
theorem xTab_fr {a : AS} {I A B : List Nat} {σ σ' : ST} (f : fr I A B σ σ') (h : xTab a σ) (hi : ∀ k ∈ ([13] : List Nat), k ∉ I) (ha : ∀ k ∈ ([31, 32, 33] : List Nat), k ∉ A) (hb : ∀ k ∈ ([37, 38, 39, 41, 42, 43] : List Nat), k ∉ B) : xTab a σ' := xTab_eq h (f.1 13 (hi 13 (by decide))) (f.2.1 31 (ha 31 (by decide))) (f.2.1 32 (ha 32 (by decide))) (f.2.1 33 (ha 33 (by decide))) (f.2.2 37 (hb 37 (by decide))) (f.2.2 38 (hb 38 (by decide))) (f.2.2 39 (hb 39 (by decide))) (f.2.2 41 (hb 41 (by decide))) (f.2.2 42 (hb 42 (by decide))) (f.2.2 43 (hb 43 (by decide)))
theorem mTab_fr {a : AS} {I A B : List Nat} {σ σ' : ST} (f : fr I A B σ σ') (h : mTab a σ) (hi : ∀ k ∈ ([] : List Nat), k ∉ I) (ha : ∀ k ∈ ([24, 25, 26, 27, 28, 29, 30] : List Nat), k ∉ A) (hb : ∀ k ∈ ([] : List Nat), k ∉ B) : mTab a σ' := mTab_eq h (f.2.1 24 (ha 24 (by decide))) (f.2.1 25 (ha 25 (by decide))) (f.2.1 26 (ha 26 (by decide))) (f.2.1 27 (ha 27 (by decide))) (f.2.1 28 (ha 28 (by decide))) (f.2.1 29 (ha 29 (by decide))) (f.2.1 30 (ha 30 (by decide)))
theorem xRead_fr {a : AS} {I A B : List Nat} {σ σ' : ST} (f : fr I A B σ σ') (h : xRead a σ) (hi : ∀ k ∈ ([15, 16] : List Nat), k ∉ I) (ha : ∀ k ∈ ([48] : List Nat), k ∉ A) (hb : ∀ k ∈ ([] : List Nat), k ∉ B) : xRead a σ' := xRead_eq h (f.1 15 (hi 15 (by decide))) (f.1 16 (hi 16 (by decide))) (f.2.1 48 (ha 48 (by decide)))
theorem mRead_fr {a : AS} {I A B : List Nat} {σ σ' : ST} (f : fr I A B σ σ') (h : mRead a σ) (hi : ∀ k ∈ ([17] : List Nat), k ∉ I) (ha : ∀ k ∈ ([31, 32] : List Nat), k ∉ A) (hb : ∀ k ∈ ([] : List Nat), k ∉ B) : mRead a σ' := mRead_eq h (f.1 17 (hi 17 (by decide))) (f.2.1 31 (ha 31 (by decide))) (f.2.1 32 (ha 32 (by decide)))
theorem xScr_fr {a : AS} {I A B : List Nat} {σ σ' : ST} (f : fr I A B σ σ') (h : xScr a σ) (hi : ∀ k ∈ ([10, 11] : List Nat), k ∉ I) (ha : ∀ k ∈ ([21, 22, 23, 24, 25, 26, 27, 28, 29] : List Nat), k ∉ A) (hb : ∀ k ∈ ([] : List Nat), k ∉ B) : xScr a σ' := xScr_eq h (f.1 10 (hi 10 (by decide))) (f.1 11 (hi 11 (by decide))) (f.2.1 21 (ha 21 (by decide))) (f.2.1 22 (ha 22 (by decide))) (f.2.1 23 (ha 23 (by decide))) (f.2.1 24 (ha 24 (by decide))) (f.2.1 25 (ha 25 (by decide))) (f.2.1 26 (ha 26 (by decide))) (f.2.1 27 (ha 27 (by decide))) (f.2.1 28 (ha 28 (by decide))) (f.2.1 29 (ha 29 (by decide)))
theorem mScr_fr {a : AS} {I A B : List Nat} {σ σ' : ST} (f : fr I A B σ σ') (h : mScr a σ) (hi : ∀ k ∈ ([11] : List Nat), k ∉ I) (ha : ∀ k ∈ ([8, 10, 11, 12, 13, 14, 15, 16, 17, 18, 19, 20] : List Nat), k ∉ A) (hb : ∀ k ∈ ([] : List Nat), k ∉ B) : mScr a σ' := mScr_eq h (f.1 11 (hi 11 (by decide))) (f.2.1 8 (ha 8 (by decide))) (f.2.1 10 (ha 10 (by decide))) (f.2.1 11 (ha 11 (by decide))) (f.2.1 12 (ha 12 (by decide))) (f.2.1 13 (ha 13 (by decide))) (f.2.1 14 (ha 14 (by decide))) (f.2.1 15 (ha 15 (by decide))) (f.2.1 16 (ha 16 (by decide))) (f.2.1 17 (ha 17 (by decide))) (f.2.1 18 (ha 18 (by decide))) (f.2.1 19 (ha 19 (by decide))) (f.2.1 20 (ha 20 (by decide)))
theorem xWrk_fr {a : AS} {I A B : List Nat} {σ σ' : ST} (f : fr I A B σ σ') (h : xWrk a σ) (hi : ∀ k ∈ ([18, 19, 20, 21] : List Nat), k ∉ I) (ha : ∀ k ∈ ([53, 54, 55, 56, 57] : List Nat), k ∉ A) (hb : ∀ k ∈ ([45] : List Nat), k ∉ B) : xWrk a σ' := xWrk_eq h (f.1 18 (hi 18 (by decide))) (f.1 19 (hi 19 (by decide))) (f.1 20 (hi 20 (by decide))) (f.1 21 (hi 21 (by decide))) (f.2.1 53 (ha 53 (by decide))) (f.2.1 54 (ha 54 (by decide))) (f.2.1 55 (ha 55 (by decide))) (f.2.1 56 (ha 56 (by decide))) (f.2.1 57 (ha 57 (by decide))) (f.2.2 45 (hb 45 (by decide)))
theorem mWrk_fr {a : AS} {I A B : List Nat} {σ σ' : ST} (f : fr I A B σ σ') (h : mWrk a σ) (hi : ∀ k ∈ ([18, 19] : List Nat), k ∉ I) (ha : ∀ k ∈ ([33, 34, 35, 36, 37] : List Nat), k ∉ A) (hb : ∀ k ∈ ([38] : List Nat), k ∉ B) : mWrk a σ' := mWrk_eq h (f.1 18 (hi 18 (by decide))) (f.1 19 (hi 19 (by decide))) (f.2.1 33 (ha 33 (by decide))) (f.2.1 34 (ha 34 (by decide))) (f.2.1 35 (ha 35 (by decide))) (f.2.1 36 (ha 36 (by decide))) (f.2.1 37 (ha 37 (by decide))) (f.2.2 38 (hb 38 (by decide)))
theorem xPost_fr {a : AS} {I A B : List Nat} {σ σ' : ST} (f : fr I A B σ σ') (h : xPost a σ) (hi : ∀ k ∈ ([17] : List Nat), k ∉ I) (ha : ∀ k ∈ ([49, 50] : List Nat), k ∉ A) (hb : ∀ k ∈ ([51] : List Nat), k ∉ B) : xPost a σ' := xPost_eq h (f.1 17 (hi 17 (by decide))) (f.2.1 49 (ha 49 (by decide))) (f.2.1 50 (ha 50 (by decide))) (f.2.2 51 (hb 51 (by decide)))
theorem mPost_fr {a : AS} {I A B : List Nat} {σ σ' : ST} (f : fr I A B σ σ') (h : mPost a σ) (hi : ∀ k ∈ ([] : List Nat), k ∉ I) (ha : ∀ k ∈ ([39, 40, 41] : List Nat), k ∉ A) (hb : ∀ k ∈ ([42] : List Nat), k ∉ B) : mPost a σ' := mPost_eq h (f.2.1 39 (ha 39 (by decide))) (f.2.1 40 (ha 40 (by decide))) (f.2.1 41 (ha 41 (by decide))) (f.2.2 42 (hb 42 (by decide)))
