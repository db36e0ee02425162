/-! ===== PURE: read, whole ===== -/
def xk67 (σ : ST) : Option ST := if (gI σ 2) = 0 then some (sI (sI σ 2 (gI σ 5)) 3 (gI (sI σ 2 (gI σ 5)) 6)) else some σ
def x0s (σ : ST) : ST := sI (sI (sI (sI (sI (sI (sI (sI σ 7 ((0 : Int32))) 8 ((0 : Int32))) 9 ((0 : Int32))) 4 ((0 : Int32))) 2 ((0 : Int32))) 3 ((-1 : Int32))) 5 ((0 : Int32))) 6 ((-1 : Int32))
theorem xText_eq (n : Nat) (σ : ST) : fX2_parseText n σ = fX2_parseText_L34 xk67 n ((0 : Int32)) (x0s σ) := rfl
def mk4 (n : Nat) (v : Int32) (σ : ST) : Option (Int32 × ST) := if (gI (sI σ 10 v) 6) ≤ 0 then (if (gI (sI σ 10 v) 8) ≤ 0 then fX11_read_L186 (fun (σ_35 : ST) => fX11_read_L206 n ((0 : Int32)) σ_35) n ((0 : Int32)) (sI (sI σ 10 v) 11 (gI (sI σ 10 v) 12)) else some (gI (sI σ 10 v) 8, sI σ 10 v)) else some (gI (sI σ 10 v) 6, sI σ 10 v)
def mk3 (n : Nat) (σ : ST) : Option (Int32 × ST) := if (gI σ 6) ≤ 0 then (if (gI σ 8) ≤ 0 then mk4 n ((-1 : Int32)) σ else mk4 n (gI σ 9) σ) else mk4 n (gI σ 7) σ
def m15 (σ : ST) : ST := sI (sI (sI (sI (sI σ 4 ((0 : Int32))) 5 ((0 : Int32))) 6 ((0 : Int32))) 8 ((0 : Int32))) 12 (((1 : Int32)) - (gI σ 11))
def mk2 (n : Nat) (σ : ST) : Option (Int32 × ST) := if ix (gI (m15 σ) 12) 2 then fX11_read_L97 (mk3 n) n (sI (stA (m15 σ) 8 (gI (m15 σ) 12) ((0 : Int32))) 13 (((500 : Int32)) * (gI (stA (m15 σ) 8 (gI (m15 σ) 12) ((0 : Int32))) 12))) else none
def mk1 (n : Nat) (σ : ST) : Option (Int32 × ST) := Option.bind (fX11_cut n (sI σ 1 ((0 : Int32)))) (fun q_10 => mk2 n q_10)
theorem mRead_eq2 (n : Nat) (τ : ST) : fX11_read n τ = fX11_read_L10 (mk1 n) n ((0 : Int32)) (sI τ 2 (gI τ 1)) := rfl
def frXr (σ σ' : ST) : Prop := fr [0, 1, 2, 3, 4, 5, 6, 7, 8, 9] [4, 5, 10, 11, 12, 13, 14, 15, 16, 17, 18] [6, 9] σ σ'
def frMr (τ τ' : ST) : Prop := fr [1, 2, 3, 4, 5, 6, 7, 8, 9, 10, 12, 13, 14, 15, 16] [2, 3, 4, 5, 8, 10, 11, 12, 13, 14, 15, 16, 17, 18, 19, 20, 21] [6, 9] τ τ'
theorem rd_same {t : Nat} {a : AS} {σ τ σ' τ' : ST} {P : Int32} (hA : wfA t a) (hB : wfB t a) (hC : wfC t a) (hD : wfD a) (hX : XR a σ) (hM : MR a τ) (hk : mKeys τ) (fX : frXr σ σ') (fM : frMr τ τ') (x0 : gI σ' 0 = 0) (x3 : gI σ' 3 = P) (m1 : gI τ' 1 = 0) (m10 : gI τ' 10 = P) (hs : mScr a τ') : Rel0 (t + 1) σ' τ' := by
  have q1 := xSpan_fr fX hX.2.2.1 (by decide) (by decide) (by decide)
  have q2 := xTab_fr fX hX.2.2.2.1 (by decide) (by decide) (by decide)
  have q3 := xRead_fr fX hX.2.2.2.2.1 (by decide) (by decide) (by decide)
  have q4 := xScr_fr fX hX.2.2.2.2.2.1 (by decide) (by decide) (by decide)
  have q5 := xWrk_fr fX hX.2.2.2.2.2.2.1 (by decide) (by decide) (by decide)
  have q6 := xPost_fr fX hX.2.2.2.2.2.2.2 (by decide) (by decide) (by decide)
  have p1 := mSpan_fr fM hM.2.2.1 (by decide) (by decide) (by decide)
  have p2 := mTab_fr fM hM.2.2.2.1 (by decide) (by decide) (by decide)
  have p3 := mRead_fr fM hM.2.2.2.2.1 (by decide) (by decide) (by decide)
  have p5 := mWrk_fr fM hM.2.2.2.2.2.2.1 (by decide) (by decide) (by decide)
  have p6 := mPost_fr fM hM.2.2.2.2.2.2.2 (by decide) (by decide) (by decide)
  exact ⟨tS (tI a 1 (fun _ => P)) 0 0, ⟨Nat.zero_le _, (wfA_mono hA).2⟩, hB, wfC_mono hC, hD, ⟨⟨x0, fun i hi => absurd hi (Nat.not_lt_zero i)⟩, x3, q1, q2, q3, q4, q5, q6⟩, ⟨⟨m1, fun i hi => absurd hi (Nat.not_lt_zero i)⟩, m10, p1, p2, p3, hs, p5, p6⟩, mKeys_fr fM (by decide) hk⟩
theorem mScr_keep {a : AS} {τ τ' : ST} {vv w : Nat} (hv : vv < 2) (hw : w = 1 - vv) (hK : cS a 1 ≤ 7) (h9 : cS a 9 ≤ 400) (e11 : gI τ 11 = nI vv) (hM : mScr a τ) (i11 : gI τ' 11 = gI τ 11) (a8 : gA τ' 8 vv = gA τ 8 vv) (rows : ∀ m j, 10 ≤ m → m ≤ 18 → (j < 7 * w ∨ 7 * w + 7 ≤ j) → gA τ' m j = gA τ m j) (cds : stc w (gA τ 19) (gA τ 20) τ') : mScr a τ' := by
  obtain ⟨v', hv', e11', e8, er, ec⟩ := hM
  have ev : v' = vv := (nI_eq (by omega) (by omega)).mp (e11'.symm.trans e11)
  subst ev
  have r : ∀ m k, 10 ≤ m → m ≤ 18 → k < cS a 1 → gA τ' m (7 * v' + k) = gA τ m (7 * v' + k) := fun m k x y z => rows m _ x y (by omega)
  refine ⟨v', hv', i11.trans e11, a8.trans e8, fun k hk => ?_, fun i hi => ?_⟩
  · rw [r 10 k (by omega) (by omega) hk, r 11 k (by omega) (by omega) hk, r 12 k (by omega) (by omega) hk, r 13 k (by omega) (by omega) hk, r 14 k (by omega) (by omega) hk, r 15 k (by omega) (by omega) hk, r 16 k (by omega) (by omega) hk, r 17 k (by omega) (by omega) hk, r 18 k (by omega) (by omega) hk]
    exact er k hk
  · have := cds (500 * v' + i) (by omega)
    rw [this.1, this.2]; exact ec i hi
/-- the state behind a text without a FAULT -/
def aRd (a : AS) (K rp : Nat) (D : Nat → Nat → Nat) (C : List (Nat × Nat)) : AS :=
  (fun k => if k = 0 then 0 else if k = 1 then K else if k = 5 then rp else if k = 6 then 0 else if k = 9 then C.length else if k = 10 then 0 else a.1 k,
   fun k => if k < 6 then D k else if k = 12 then (fun _ => 0) else if k = 13 then (fun j => j) else if k = 15 then (fun _ => 0) else if k = 17 then (fun _ => 0) else if k = 18 then (fun _ => 0) else if k = 19 then (fun i => (C.getD i (0, 0)).1) else if k = 20 then (fun i => (C.getD i (0, 0)).2) else if k = 21 then D 21 else a.2.1 k,
   fun k => if k = 1 then (fun _ => -1) else a.2.2.1 k, fun k => if k = 1 then (fun _ => 0) else a.2.2.2 k)
theorem aRd_wfB {t : Nat} {a : AS} {K rp : Nat} {D : Nat → Nat → Nat} {C : List (Nat × Nat)} (hB : wfB t a) (hK : K ≤ 7) (hrp : rp < 2 ^ K) (hC : C.length ≤ 400) (hs : ∀ k, k < K → stK rp D C k) : wfB (t + 1) (aRd a K rp D C) := by
  have h128 : rp < 128 := Nat.lt_of_lt_of_le hrp (Nat.pow_le_pow_right (by decide) hK)
  refine ⟨⟨hK, h128, hC, fun k hk => (hs k hk).1⟩, ⟨hB.2.1.1, hB.2.1.2.1, hB.2.1.2.2.1, Nat.two_pow_pos K⟩, fun h _ => Nat.zero_le K, fun h h' _ _ z => absurd rfl z, fun h _ _ => rfl, fun h _ z => absurd rfl z, fun k _ z => ?_, fun k _ z => ?_, fun i hi => hi, fun i j _ _ e => e⟩
  · have z' : (0 : Nat).testBit k = true := z
    rw [Nat.zero_testBit] at z'; cases z'
  · rcases z with z | ⟨h, -, z⟩
    · have z' : (0 : Nat).testBit k = true := z
      rw [Nat.zero_testBit] at z'; cases z'
    · have z' : 0 = k + 1 := z
      omega
theorem aRd_wfC {t : Nat} {a : AS} {K rp : Nat} {D : Nat → Nat → Nat} {C : List (Nat × Nat)} : wfC (t + 1) (aRd a K rp D C) := by
  refine ⟨fun k _ => ⟨Nat.two_pow_pos _, fun z => absurd rfl z⟩, fun i _ => Nat.zero_le _, rfl, fun k r g _ _ _ _ => rfl⟩
theorem aRd_wfD {a : AS} {K rp : Nat} {D : Nat → Nat → Nat} {C : List (Nat × Nat)} (hs : ∀ k, k < K → stK rp D C k) : wfD (aRd a K rp D C) := by
  intro k hk
  obtain ⟨-, c, c1, c2, c3, c4, c5⟩ := hs k hk
  have eb : cdB (aRd a K rp D C) k = if k = 0 then 0 else D 21 (k - 1) := rfl
  have e21 : cN (aRd a K rp D C) 21 k = D 21 k := rfl
  rw [eb, e21]
  generalize (if k = 0 then 0 else D 21 (k - 1)) = b at c1 c3
  have el : D 21 k - b = c.length := by omega
  rw [el]
  obtain ⟨s1, s2⟩ := htA_seg (ck := cN (aRd a K rp D C) 19) (b := b) c.length c rfl (fun i hi => congrArg Prod.fst (c3 i hi)) 1 (c4 0)
  refine ⟨by omega, c2, s1, fun i hi => ?_⟩
  have m : c.getD i (0, 0) ∈ c := by
    rw [List.getD_eq_getElem?_getD, List.getElem?_eq_getElem hi]
    exact List.getElem_mem hi
  have ok := c5 _ m
  have ek : cN (aRd a K rp D C) 19 (b + i) = (c.getD i (0, 0)).1 := congrArg Prod.fst (c3 i hi)
  have eo : cN (aRd a K rp D C) 20 (b + i) = (c.getD i (0, 0)).2 := congrArg Prod.snd (c3 i hi)
  have s2' := s2 i hi
  rw [ek] at s2'
  rw [ek, eo]
  exact ⟨ok.1, s2', fun x y => (ok.2.2.1 x y).1, ok.2.2.2, ok.2.1⟩
theorem rd_new {t : Nat} {a : AS} {σ τ σ' τ' : ST} {K rp w : Nat} {D : Nat → Nat → Nat} {C : List (Nat × Nat)} (hA : wfA t a) (hB : wfB t a) (hX : XR a σ) (hM : MR a τ) (hk : mKeys τ) (hK : K ≤ 7) (hrp : rp < 2 ^ K) (hCl : C.length ≤ 400) (hs : ∀ k, k < K → stK rp D C k)
    (fX : fr [0, 1, 2, 3, 4, 5, 6, 7, 8, 9, 10, 11, 12, 17, 20, 21] [4, 5, 10, 11, 12, 13, 14, 15, 16, 17, 18, 21, 22, 23, 24, 25, 26, 27, 28, 29, 49, 50, 53, 54, 56] [6, 9, 20, 51] σ σ') (fM : fr [1, 2, 3, 4, 5, 6, 7, 8, 9, 10, 11, 12, 13, 14, 15, 16] [2, 3, 4, 5, 8, 10, 11, 12, 13, 14, 15, 16, 17, 18, 19, 20, 21, 33, 34, 35, 36, 37, 39, 40, 41] [6, 9, 42] τ τ')
    (x0 : gI σ' 0 = 0) (x3 : gI σ' 3 = -1) (x10 : gI σ' 10 = nI K) (x11 : gI σ' 11 = nI rp) (xr : ∀ k, k < K → gA σ' 21 k = nI (D 0 k) ∧ gA σ' 22 k = nI (D 1 k) ∧ gA σ' 23 k = nI (D 2 k) ∧ gA σ' 24 k = nI (D 3 k) ∧ gA σ' 25 k = nI (D 4 k) ∧ gA σ' 26 k = nI (D 5 k) ∧ gA σ' 27 k = nI (D 21 k)) (xc : ∀ i, i < C.length → gA σ' 28 i = xopOf (C.getD i (0, 0)).1 ∧ gA σ' 29 i = nI (C.getD i (0, 0)).2)
    (x20 : gI σ' 20 = 0) (x21 : gI σ' 21 = 0) (x53 : ∀ j, j < 3 → gA σ' 53 j = (-1 : Int32)) (x54 : ∀ j, j < 7 → gA σ' 54 j = nI j ∧ gA σ' 56 j = 0) (x17 : gI σ' 17 = 0) (x49 : ∀ j, j < 7 → gA σ' 49 j = (0 : Int32)) (x50 : ∀ j, j < 42 → gA σ' 50 j = (0 : Int32)) (x51 : ∀ j, j < 336 → gB σ' 51 j = (0 : Int64))
    (m1 : gI τ' 1 = 0) (m10 : gI τ' 10 = -1) (hw : w < 2) (m11 : gI τ' 11 = nI w) (m8 : gA τ' 8 w = nI K) (mN : ∀ k, k < K → gA τ' 10 (7 * w + k) = if rp.testBit k = true then 1 else 0) (mr : ∀ k, k < K → mRw w D k τ') (mc : ∀ j, j < C.length → gA τ' 19 (500 * w + j) = nI (C.getD j (0, 0)).1 ∧ gA τ' 20 (500 * w + j) = nI (C.getD j (0, 0)).2)
    (m33 : ∀ j, j < 3 → gA τ' 33 j = (-1 : Int32)) (m35 : ∀ j, j < 7 → gA τ' 35 j = (-1 : Int32) ∧ gA τ' 36 j = 0 ∧ gA τ' 34 j = nI j) (m39 : ∀ j, j < 42 → gA τ' 39 j = 0 ∧ gA τ' 40 j = 0 ∧ gA τ' 41 j = 0) (m42 : ∀ j, j < 336 → gB τ' 42 j = (0 : Int64)) : Rel0 (t + 1) σ' τ' := by
  have q1 := xSpan_fr fX hX.2.2.1 (by decide) (by decide) (by decide)
  have q2 := xTab_fr fX hX.2.2.2.1 (by decide) (by decide) (by decide)
  have q3 := xRead_fr fX hX.2.2.2.2.1 (by decide) (by decide) (by decide)
  have p1 := mSpan_fr fM hM.2.2.1 (by decide) (by decide) (by decide)
  have p2 := mTab_fr fM hM.2.2.2.1 (by decide) (by decide) (by decide)
  have p3 := mRead_fr fM hM.2.2.2.2.1 (by decide) (by decide) (by decide)
  have e0 : ∀ k, (0 : Nat).testBit k = false := fun k => Nat.zero_testBit k
  refine ⟨aRd a K rp D C, ⟨Nat.zero_le _, (wfA_mono hA).2⟩, aRd_wfB hB hK hrp hCl hs, aRd_wfC, aRd_wfD hs, ⟨⟨x0, fun i hi => absurd hi (Nat.not_lt_zero i)⟩, x3, q1, q2, q3, ⟨x10, x11, xr, xc⟩, ?_, ?_⟩, ⟨⟨m1, fun i hi => absurd hi (Nat.not_lt_zero i)⟩, m10, p1, p2, p3, ⟨w, hw, m11, m8, fun k hk' => ?_, mc⟩, ?_, ?_⟩, mKeys_fr fM (by decide) hk⟩
  · refine ⟨(fX.1 18 (by decide)).trans hX.2.2.2.2.2.2.1.1, (fX.1 19 (by decide)).trans hX.2.2.2.2.2.2.1.2.1, x20, ⟨0, by decide, x21, fun k _ => ?_⟩, fun h hh => x53 h hh, fun k hk' => (x54 k hk').1, fun k hk' => (x54 k (Nat.lt_of_lt_of_le hk' hK)).2, fun k _ z => ?_, fun k _ z => ?_, fun h _ z => absurd rfl z⟩
    · rw [e0]
      constructor
      · intro z; cases z
      · rintro ⟨h, -, z⟩
        have z' : 0 = k + 1 := z
        omega
    · have z' : (0 : Nat).testBit k = true := z
      rw [e0] at z'; cases z'
    · have z' : (0 : Nat).testBit k = true := z
      rw [e0] at z'; cases z'
  · exact ⟨x17, x49, x50, x51⟩
  · obtain ⟨⟨r1, r2, r3⟩, ⟨r4, r5, r6⟩, r7, r8⟩ := mr k hk'
    exact ⟨mN k hk', r1, r2, r3, r4, r5, r6, r7, r8⟩
  · refine ⟨(fM.1 18 (by decide)).trans hM.2.2.2.2.2.2.1.1, (fM.1 19 (by decide)).trans hM.2.2.2.2.2.2.1.2.1, fun h hh => m33 h hh, fun k hk' => (m35 k hk').2.2, fun k hk' => (m35 k (Nat.lt_of_lt_of_le hk' hK)).2.1, fun k hk' => ?_, fun k _ z => ?_, fun h _ z => absurd rfl z⟩
    · show gA τ' 35 k = if (0 : Nat).testBit k = true then _ else -1
      rw [e0, if_neg (by decide)]
      exact (m35 k (Nat.lt_of_lt_of_le hk' hK)).1
    · have z' : (0 : Nat).testBit k = true := z
      rw [e0] at z'; cases z'
  · refine ⟨fun k r hk' hr => ?_, fun i hi => ⟨(m39 i hi).2.2, (m39 i hi).2.1⟩, m42⟩
    show gA τ' 39 (6 * k + r) = if (0 : Nat).testBit r = true then 1 else 0
    rw [e0, if_neg (by decide)]
    exact (m39 (6 * k + r) (by omega)).1
