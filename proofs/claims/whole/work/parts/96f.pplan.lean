/-! ===== PURE: plan ===== -/
/-- the order has no say in a run ahead -/
theorem soN_o (a : AS) (f : Nat → Nat) (ld : Nat → Nat) : ∀ k, soN (tN a 13 f) ld k = soN a ld k := by
  intro k
  induction k with
  | zero => rfl
  | succ k ih => rw [soN, soN, ih]; rfl
theorem soE_o (a : AS) (f : Nat → Nat) : soE (tN a 13 f) = soE a := soN_o a f (cN a 10) (cS a 1)
theorem rdyB_o (a : AS) (f : Nat → Nat) (t : Nat) (s : RS) : rdyB (tN a 13 f) t s = rdyB a t s := rfl
theorem begS_o (a : AS) (f : Nat → Nat) (l : List Nat) (t h : Nat) (s : RS) : begS (tN a 13 f) l t h s = begS a l t h s := by
  unfold begS
  rw [rdyB_o]
  rfl
theorem hosS_o (a : AS) (f : Nat → Nat) (l : List Nat) (t : Nat) (s : RS) : ∀ h, hosS (tN a 13 f) l t h s = hosS a l t h s := by
  intro h
  induction h with
  | zero => rfl
  | succ h ih => rw [hosS, hosS, ih, begS_o]
theorem runS_o (a : AS) (f : Nat → Nat) (l : List Nat) : ∀ n, runS (tN a 13 f) l n = runS a l n := by
  intro n
  induction n with
  | zero =>
    show sta (tN a 13 f) = sta a
    unfold sta
    rw [soE_o]
    rfl
  | succ n ih => rw [runS, runS, ih, hosS_o]; rfl
theorem finS_o (a : AS) (f : Nat → Nat) (l : List Nat) : finS (tN a 13 f) l = finS a l := runS_o a f l _
def aO (a : AS) (l : List Nat) : AS := tN a 13 (fun i => if i < cS a 1 then l.getD i 0 else cN a 13 i)
theorem aO_wf {m t : Nat} {a : AS} {l : List Nat} (hl : l.Perm (List.range (cS a 1))) (hB : wfBg m t a) : wfBg m t (aO a l) := by
  obtain ⟨b1, b2, b3, b4, b5, b6, b7, b8, b9, b10⟩ := hB
  have hlen : l.length = cS a 1 := by rw [hl.length_eq, List.length_range]
  refine ⟨b1, b2, b3, b4, b5, b6, b7, b8, fun i hi => ?_, fun i j hi hj he => ?_⟩
  · have hi' : i < cS a 1 := hi
    show (if i < cS a 1 then l.getD i 0 else cN a 13 i) < cS a 1
    rw [if_pos hi']
    exact List.mem_range.mp (hl.mem_iff.mp (getD_mem (by omega)))
  · have hi' : i < cS a 1 := hi
    have hj' : j < cS a 1 := hj
    have he' : (if i < cS a 1 then l.getD i 0 else cN a 13 i) = (if j < cS a 1 then l.getD j 0 else cN a 13 j) := he
    rw [if_pos hi', if_pos hj'] at he'
    by_cases c : i = j
    · exact c
    · exact absurd he' (nd_get (hl.nodup_iff.mpr List.nodup_range) (by omega) (by omega) c)
theorem sub_le0 {e d : Nat} (he : e < 2 ^ 30) (hd : d < 2 ^ 30) : (nI e - nI d ≤ 0) ↔ e ≤ d := by
  rw [Int32.le_iff_toInt_le, Int32.toInt_sub, nI_toInt (by omega), nI_toInt (by omega)]
  have : ((e : Int) - (d : Int)).bmod (2 ^ 32) = (e : Int) - (d : Int) := by
    rw [Int.bmod_eq_of_le (by omega) (by omega)]
  rw [this]
  simp
  omega
theorem mLates {a : AS} {en : Nat → Nat} {τ : ST} (hB : wfBg 0 0 a) (hM : mScr a τ) (h45 : ∀ k, k < cS a 1 → gA τ 45 k = nI (en k)) (hen : ∀ k, k < cS a 1 → en k ≤ 400) : ∀ d k n, k + d = cS a 1 → d < n → fX11_lates_L4 n (nI (sumTo (fun k => costA a k (en k)) k)) (nI k) τ = some (nI (sumTo (fun k => costA a k (en k)) (cS a 1)), τ) := by
  have hK := hB.1.1
  obtain ⟨v, hv, s11, s8, sK, sC⟩ := hM
  intro d
  induction d with
  | zero =>
    intro k n hk hn
    obtain ⟨m, rfl⟩ : ∃ m, n = m + 1 := ⟨n - 1, by omega⟩
    have : k = cS a 1 := by omega
    subst this
    rw [fX11_lates_L4, s11, if_pos (ix_nI hv (by decide)), ldA_nI _ 8 v (by omega), s8, if_pos (nI_le (Nat.le_refl _) (by omega))]
  | succ d ih =>
    intro k n hk hn
    obtain ⟨m, rfl⟩ : ∃ m, n = m + 1 := ⟨n - 1, by omega⟩
    have hkK : k < cS a 1 := by omega
    have bt := hB.1.2.2.2 k hkK
    have sk := sK k hkK
    have hek := hen k hkK
    have i14 : ix (nI (7 * v + k)) 14 := ix_nI (by omega) (by decide)
    have hh := ih (k + 1) m (by omega) (by omega)
    rw [sumTo] at hh
    rw [fX11_lates_L4, s11, if_pos (ix_nI hv (by decide)), ldA_nI _ 8 v (by omega), s8, if_neg (nI_ge hkK (by omega)), m7, if_pos (ix_nI (show k < 7 by omega) (by decide)), if_pos i14, ldA_nI _ 45 k (by omega), h45 k hkK]
    simp only [lt_def, if_pos i14, ldA_nI _ _ (7 * v + k) (show 7 * v + k < 2 ^ 31 by omega), sk.1, sk.2.2.1, sk.2.2.2.1, pif, nI_1]
    by_cases c5 : (cS a 5).testBit k = true
    · rw [if_pos c5]
      by_cases c : en k ≤ cN a 1 k
      · rw [if_pos ((sub_le0 (by omega) (by omega)).mpr c)]
        have e : costA a k (en k) = 0 := by unfold costA; rw [show en k - cN a 1 k = 0 by omega, Nat.zero_mul]
        simp only [e, Nat.add_zero] at hh
        exact hh
      · rw [if_neg (fun z => c ((sub_le0 (by omega) (by omega)).mp z)), pk_sub (by omega), pk_mul, nI_add]
        exact hh
    · rw [if_neg c5]
      have e : costA a k (en k) = 0 := by unfold costA; rw [(bt.2.2.2.2.1 (by simpa using c5)).2, Nat.mul_zero]
      simp only [e, Nat.add_zero] at hh
      exact hh
theorem mCpO {K : Nat} (hK : K ≤ 7) {x2 : Int32} (k91 : Int32 → Int32 → ST → Option (Int32 × ST)) : ∀ d i n τ, i + d = K → d < n → (∀ q, q < i → gA τ 34 q = gA τ 44 q) → ∃ τ', fX11_plan_L65 k91 n (nI K) x2 (nI i) τ = k91 (nI K) x2 τ' ∧ fr [] [34] [] τ τ' ∧ (∀ q, q < K → gA τ' 34 q = gA τ' 44 q) ∧ (∀ q, K ≤ q → gA τ' 34 q = gA τ 34 q) := by
  intro d
  induction d with
  | zero =>
    intro i n τ hi hn h
    obtain ⟨m, rfl⟩ : ∃ m, n = m + 1 := ⟨n - 1, by omega⟩
    have : i = K := by omega
    subst this
    exact ⟨τ, by rw [fX11_plan_L65, if_pos (nI_le (Nat.le_refl _) (by omega))], fr_rf, h, fun _ _ => rfl⟩
  | succ d ih =>
    intro i n τ hi hn h
    obtain ⟨m, rfl⟩ : ∃ m, n = m + 1 := ⟨n - 1, by omega⟩
    have i7 : ix (nI i) 7 := ix_nI (by omega) (by decide)
    rw [fX11_plan_L65, if_neg (nI_ge (by omega) (by omega))]
    simp only [if_pos i7, lt_def]
    rw [ldA_nI τ 44 i (by omega), stA_nI τ 34 i _ (by omega), nI_1]
    have f1 : fr [] [34] [] τ (sA τ 34 (upd (gA τ 34) i (gA τ 44 i))) := fr_sA fr_rf (by decide)
    obtain ⟨τ', r1, r2, r3, r4⟩ := ih (i + 1) m (sA τ 34 (upd (gA τ 34) i (gA τ 44 i))) (by omega) (by omega) (fun q hq => by
      show upd (gA τ 34) i (gA τ 44 i) q = gA τ 44 q
      rw [upd_at]
      by_cases c : q = i
      · rw [if_pos c, c]
      · rw [if_neg c]; exact h q (by omega))
    refine ⟨τ', r1, fr_tr f1 r2, r3, fun q hq => ?_⟩
    rw [r4 q hq]
    show upd (gA τ 34) i (gA τ 44 i) q = _
    rw [upd_at, if_neg (by omega)]
def RP (a : AS) (l : List Nat) : Prop := l.Perm (List.range (cS a 1))
def MInv (a : AS) (l : List Nat) (B : Nat) (b : List Nat) : Prop := (∀ p, RP a p → lexLt p l → B ≤ CL a p ∧ (CL a p = B → lexLe b p)) ∧ (B = 2147483647 ∨ (lexLt b l ∧ CL a b = B))
def MBest (a : AS) (B : Nat) (b : List Nat) : Prop := RP a b ∧ CL a b = B ∧ ∀ p, RP a p → B ≤ CL a p ∧ (CL a p = B → lexLe b p)
def encB (B : Nat) : Int32 := if B = 2147483647 then -1 else nI B
theorem rp_in {a : AS} {l : List Nat} (h : RP a l) : inK a l := fun _ hk => List.mem_range.mp (h.mem_iff.mp hk)
theorem rp_len {a : AS} {l : List Nat} (h : RP a l) : l.length = cS a 1 := by rw [h.length_eq, List.length_range]
theorem MR_ord {a : AS} {o l : List Nat} {τ τ' : ST} (hM : MR (aO a o) τ) (f : fr [] [34] [] τ τ') (h1 : ∀ q, q < cS a 1 → gA τ' 34 q = nI (l.getD q 0)) (h2 : ∀ q, cS a 1 ≤ q → gA τ' 34 q = gA τ 34 q) : MR (aO a l) τ' := by
  obtain ⟨mT, mP, mS, mTb, mR, mSc, ⟨y18, y19, y33, y34, y36, y35, y38, y37⟩, mPo⟩ := hM
  refine ⟨mTape_fr f mT (by decide) (by decide) (by decide), mPlace_fr f mP (by decide) (by decide) (by decide), mSpan_fr f mS (by decide) (by decide) (by decide), mTab_fr f mTb (by decide) (by decide) (by decide), mRead_fr f mR (by decide) (by decide) (by decide), mScr_fr f mSc (by decide) (by decide) (by decide), ⟨?_, ?_, ?_, fun k hk => ?_, ?_, ?_, ?_, ?_⟩, mPost_fr f mPo (by decide) (by decide) (by decide)⟩
  · rw [f.1 18 (by decide)]; exact y18
  · rw [f.1 19 (by decide)]; exact y19
  · rw [f.2.1 33 (by decide)]; exact y33
  · show _ = nI (if k < cS a 1 then l.getD k 0 else cN a 13 k)
    by_cases c : k < cS a 1
    · rw [if_pos c]; exact h1 k c
    · rw [if_neg c, h2 k (by omega), y34 k hk]
      show nI (if k < cS a 1 then o.getD k 0 else cN a 13 k) = _
      rw [if_neg c]
  · rw [f.2.1 36 (by decide)]; exact y36
  · rw [f.2.1 35 (by decide)]; exact y35
  · rw [f.2.2 38 (by decide)]; exact y38
  · rw [f.2.1 37 (by decide)]; exact y37
theorem mPlanL {a : AS} (hA : wfA 600 a) (hB : wfBg 0 0 a) : ∀ r n l B o τ, 5040 ≤ rkL l + r → r + 3000 < n → RP a l → RLs l τ → RP a o → MR (aO a o) τ → mKeys τ → B ≤ 2147483647 → MInv a l B o →
    ∃ τ' B' b', fX11_plan_L34 n (nI (cS a 1)) (encB B) 1 τ = some (nI B', τ') ∧ RP a b' ∧ MR (aO a b') τ' ∧ mKeys τ' ∧ MBest a B' b' := by
  have hK := hB.1.1
  have hs := hs_of hB
  intro r
  induction r with
  | zero =>
    intro n l B o τ hr hn hl hR ho hM hk hBd hI
    have h1 := rkL_lt l
    have h2 := fac_le l.length (by rw [rp_len hl]; omega)
    omega
  | succ r ih =>
    intro n l B o τ hr hn hl hR ho hM hky hBd hI
    obtain ⟨m, rfl⟩ : ∃ m, n = m + 1 := ⟨n - 1, by omega⟩
    have hBo := aO_wf ho hB
    have hlen := rp_len hl
    obtain ⟨τ1, r1, r2, r3⟩ := mForesees (a := aO a o) (r := l) (n := m) (by omega) hA hBo hM hl hR.1
    have hfin : finS (aO a o) l = finS a l := finS_o a _ l
    have hM1 := MR_fo (fr_up r2 (by decide) (by decide) (by decide)) hM
    have hI0 := RI_run hs (rp_in hl) (399 - cS a 3) (Nat.le_refl _)
    have hlat : fX11_lates m τ1 = some (nI (CL a l), τ1) := by
      unfold fX11_lates
      rw [lt_def, lt_def]
      exact mLates (a := a) (en := (finS a l).1) hB hM1.2.2.2.2.2.1 (fun k hk => by rw [r3 k hk, hfin]) (fun k hk => (hI0.1 k hk).2) (cS a 1) 0 m (by omega) (by omega)
    have hC := CL_le hB (rp_in hl)
    have hR1 : RLs l τ1 := ⟨fun i hi => by rw [r2.2.1 44 (by decide)]; exact hR.1 i hi, hR.2⟩
    have key : ∀ (B' : Nat) (b' : List Nat) (τ2 : ST), RLs l τ2 → MR (aO a b') τ2 → mKeys τ2 → RP a b' → B' ≤ 280000 → CL a b' = B' → lexLe b' l → (∀ p, RP a p → (lexLt p l ∨ p = l) → B' ≤ CL a p ∧ (CL a p = B' → lexLe b' p)) →
        ∃ τ' B'' b'', (if nI B' ≤ 0 then fX11_plan_L34 m (nI (cS a 1)) (nI B') 0 τ2 else Option.bind (fX11_nextRow m (nI (cS a 1)) τ2) (fun q_21 => if q_21.1 = 0 then fX11_plan_L34 m (nI (cS a 1)) (nI B') 0 q_21.2 else fX11_plan_L34 m (nI (cS a 1)) (nI B') 1 q_21.2)) = some (nI B'', τ') ∧ RP a b'' ∧ MR (aO a b'') τ' ∧ mKeys τ' ∧ MBest a B'' b'' := by
      intro B' b' τ2 hR2 hM2 hk2 hb' hB' hCb hle hP
      have stop : ∀ τ3, fX11_plan_L34 m (nI (cS a 1)) (nI B') 0 τ3 = some (nI B', τ3) := by
        intro τ3
        obtain ⟨m', rfl⟩ : ∃ m', m = m' + 1 := ⟨m - 1, by omega⟩
        rw [fX11_plan_L34, if_pos rfl]
      by_cases c : B' = 0
      · rw [if_pos (by rw [c]; decide), stop]
        refine ⟨τ2, B', b', rfl, hb', hM2, hk2, hb', hCb, fun p hp => ⟨by omega, fun he => ?_⟩⟩
        rcases lexLt_tot p l with z | z | z
        · exact (hP p hp (Or.inr z)).2 he
        · exact (hP p hp (Or.inl z)).2 he
        · exact Or.inr (lexLe_lt hle z)
      · rw [if_neg (nI_nle (by omega) (by omega))]
        rcases mNextRow (n := m) (by omega) hR2 (hl.nodup_iff.mpr List.nodup_range) with ⟨n1, n2⟩ | ⟨l', τ3, n1, n2, n3, n4, n5⟩
        · rw [hlen] at n2
          rw [n2, Option.bind_some, if_pos rfl, stop]
          refine ⟨τ2, B', b', rfl, hb', hM2, hk2, hb', hCb, fun p hp => ?_⟩
          rcases lexLt_tot p l with z | z | z
          · exact hP p hp (Or.inr z)
          · exact hP p hp (Or.inl z)
          · have hpl : p.Perm l := hp.trans hl.symm
            have e := sameHd_all hpl.length_eq (by rw [hpl.length_eq]; exact Nat.le_refl _) (noNext_sp n1 hpl z)
            rw [e] at z; exact absurd z (lexLt_irr _)
        · rw [hlen] at n5
          rw [n5, Option.bind_some, if_neg one_ne]
          have hlt := nextOf_lt n1
          have hl' : RP a l' := n2.trans hl
          have hInv : MInv a l' B' b' := by
            refine ⟨fun p hp hpq => ?_, Or.inr ⟨lexLe_lt hle hlt, hCb⟩⟩
            rcases lexLt_tot p l with z | z | z
            · exact hP p hp (Or.inr z)
            · exact hP p hp (Or.inl z)
            · have hpl : p.Perm l := hp.trans hl.symm
              rcases nextOf_sp n1 n2 hpl z with y | y
              · have e := sameHd_all hpl.length_eq (by rw [hpl.length_eq]; exact Nat.le_refl _) y
                rw [e] at z; exact absurd z (lexLt_irr _)
              · exact absurd (lexLe_lt y hpq) (lexLt_irr _)
          have hM3 := MR_fo (fr_up n4 (by decide) (by decide) (by decide)) hM2
          have e := ih m l' B' b' τ3 (by have := rkL_mono n2.symm hlt; omega) (by omega) hl' n3 hb' hM3 (mKeys_fr n4 (by decide) hk2) (by omega) hInv
          have eb : encB B' = nI B' := by unfold encB; rw [if_neg (by omega)]
          rw [eb] at e
          exact e
    have better : (∀ p, RP a p → lexLt p l → CL a l < CL a p) → ∃ τ' B'' b'', fX11_plan_L65 (fun (x1_33 : Int32) (x2_34 : Int32) (σ_35 : ST) => (if x2_34 ≤ 0 then fX11_plan_L34 m x1_33 x2_34 0 σ_35 else Option.bind (fX11_nextRow m x1_33 σ_35) (fun q_21 => if q_21.1 = 0 then fX11_plan_L34 m x1_33 x2_34 0 q_21.2 else fX11_plan_L34 m x1_33 x2_34 1 q_21.2))) m (nI (cS a 1)) (nI (CL a l)) 0 τ1 = some (nI B'', τ') ∧ RP a b'' ∧ MR (aO a b'') τ' ∧ mKeys τ' ∧ MBest a B'' b'' := by
      intro hb
      obtain ⟨τ2, s1, s2, s3, s4⟩ := mCpO (K := cS a 1) hK (x2 := nI (CL a l)) (fun (x1_33 : Int32) (x2_34 : Int32) (σ_35 : ST) => (if x2_34 ≤ 0 then fX11_plan_L34 m x1_33 x2_34 0 σ_35 else Option.bind (fX11_nextRow m x1_33 σ_35) (fun q_21 => if q_21.1 = 0 then fX11_plan_L34 m x1_33 x2_34 0 q_21.2 else fX11_plan_L34 m x1_33 x2_34 1 q_21.2))) (cS a 1) 0 m τ1 (by omega) (by omega) (fun q hq => absurd hq (Nat.not_lt_zero q))
      have hM2 := MR_ord (l := l) hM1 s2 (fun q hq => by rw [s3 q hq, s2.2.1 44 (by decide)]; exact hR1.1 q (by omega)) s4
      obtain ⟨τ', B'', b'', k1, k2⟩ := key (CL a l) l τ2 ⟨fun i hi => by rw [s2.2.1 44 (by decide)]; exact hR1.1 i hi, hR.2⟩ hM2 (mKeys_fr s2 (by decide) (mKeys_fr r2 (by decide) hky)) hl hC rfl (Or.inl rfl) (fun p hp hcase => by
        rcases hcase with z | z
        · have := hb p hp z
          exact ⟨by omega, fun e => by omega⟩
        · subst z
          exact ⟨Nat.le_refl _, fun _ => Or.inl rfl⟩)
      exact ⟨τ', B'', b'', s1.trans k1, k2⟩
    rw [fX11_plan_L34, if_neg one_ne, r1, Option.bind_some, hlat, Option.bind_some]
    simp only [lt_def]
    unfold encB
    by_cases cM : B = 2147483647
    · rw [if_pos cM, if_pos rfl]
      exact better (fun p hp hlt => by
        have := (hI.1 p hp hlt).1
        have := CL_le hB (rp_in hp)
        omega)
    · rw [if_neg cM]
      obtain ⟨b1, b2⟩ := hI.2.resolve_left cM
      have hBs : B ≤ 280000 := by rw [← b2]; exact CL_le hB (rp_in ho)
      rw [if_neg (nI_ne_m1 (by omega))]
      by_cases c : B ≤ CL a l
      · rw [if_pos (nI_le c (by omega))]
        exact key B o τ1 hR1 hM1 (mKeys_fr r2 (by decide) hky) ho hBs b2 (Or.inr b1) (fun p hp hcase => by
          rcases hcase with z | z
          · exact hI.1 p hp z
          · subst z
            exact ⟨c, fun _ => Or.inr b1⟩)
      · rw [if_neg (nI_ge (by omega) (by omega))]
        exact better (fun p hp hlt => by
          have := (hI.1 p hp hlt).1
          omega)
theorem mRowId {K : Nat} (hK : K ≤ 7) (k30 : Int32 → ST → Option (Int32 × ST)) : ∀ d i n τ, i + d = K → d < n → (∀ q, q < i → gA τ 44 q = nI q) → ∃ τ', fX11_plan_L12 k30 n (nI K) (nI i) τ = k30 (nI K) τ' ∧ fr [] [44] [] τ τ' ∧ ∀ q, q < K → gA τ' 44 q = nI q := by
  intro d
  induction d with
  | zero =>
    intro i n τ hi hn h
    obtain ⟨m, rfl⟩ : ∃ m, n = m + 1 := ⟨n - 1, by omega⟩
    have : i = K := by omega
    subst this
    exact ⟨τ, by rw [fX11_plan_L12, if_pos (nI_le (Nat.le_refl _) (by omega))], fr_rf, h⟩
  | succ d ih =>
    intro i n τ hi hn h
    obtain ⟨m, rfl⟩ : ∃ m, n = m + 1 := ⟨n - 1, by omega⟩
    have i7 : ix (nI i) 7 := ix_nI (by omega) (by decide)
    rw [fX11_plan_L12, if_neg (nI_ge (by omega) (by omega))]
    simp only [if_pos i7, lt_def]
    rw [stA_nI τ 44 i _ (by omega), nI_1]
    have f1 : fr [] [44] [] τ (sA τ 44 (upd (gA τ 44) i (nI i))) := fr_sA fr_rf (by decide)
    obtain ⟨τ', r1, r2, r3⟩ := ih (i + 1) m (sA τ 44 (upd (gA τ 44) i (nI i))) (by omega) (by omega) (fun q hq => by
      show upd (gA τ 44) i (nI i) q = nI q
      rw [upd_at]
      by_cases c : q = i
      · rw [if_pos c, c]
      · rw [if_neg c]; exact h q (by omega))
    exact ⟨τ', r1, fr_tr f1 r2, r3⟩
theorem plan_gen {n : Nat} (hn : 20000 ≤ n) : SimStep Rel0 (fX10_plan n) (fX11_plan n) := by
  intro t σ τ ht hR
  obtain ⟨a, hA, hB, hC, hD, hX, hM, hk⟩ := id hR
  have hK : cS a 1 ≤ 7 := hB.1.1
  have hA6 := wfA_le hA (show t ≤ 600 by omega)
  have hB0 : wfBg 0 0 a := wfBg_0 (wfBg_1 hB)
  obtain ⟨σ', B, b, x1, x2, x3, x4, x5⟩ := xPlan (n := n) (by omega) hA6 hB0 hX
  obtain ⟨v, hv, m1, m2, m3, m4⟩ := id hM.2.2.2.2.2.1
  obtain ⟨τ1, u1, u2, u3⟩ := mRowId (K := cS a 1) hK (fun (x1_8 : Int32) (σ_9 : ST) => (fX11_plan_L34 n x1_8 (-1) 1 σ_9)) (cS a 1) 0 n τ (by omega) (by omega) (fun q hq => absurd hq (Nat.not_lt_zero q))
  have hMo : MR (aO a (ordL a)) τ := MR_ord (o := ordL a) (l := ordL a) (τ := τ) (by
    obtain ⟨mT, mP, mS, mTb, mR, mSc, ⟨y18, y19, y33, y34, yy⟩, mPo⟩ := hM
    refine ⟨mT, mP, mS, mTb, mR, mSc, ⟨y18, y19, y33, fun k hk => ?_, yy⟩, mPo⟩
    show _ = nI (if k < cS a 1 then (ordL a).getD k 0 else cN a 13 k)
    by_cases c : k < cS a 1
    · rw [if_pos c, ordL_get c]; exact y34 k hk
    · rw [if_neg c]; exact y34 k hk) fr_rf (fun q hq => by rw [ordL_get hq]; exact hM.2.2.2.2.2.2.1.2.2.2.1 q (by omega)) (fun _ _ => rfl)
  have hM1 := MR_fo (fr_up u2 (by decide) (by decide) (by decide)) hMo
  have hrl : (List.range (cS a 1)).length = cS a 1 := List.length_range
  have hrg : ∀ i, i < cS a 1 → (List.range (cS a 1)).getD i 0 = i := fun i hi => by simp [hi]
  obtain ⟨τ2, B', b', w1, w2, w3, w4, w5⟩ := mPlanL hA6 hB0 5040 n (List.range (cS a 1)) 2147483647 (ordL a) τ1 (by omega) (by omega) (List.Perm.refl _) ⟨fun i hi => by rw [hrl] at hi; rw [u3 i hi, hrg i hi], by omega, fun i hi => by rw [hrl] at hi; rw [hrg i hi]; omega⟩ (ordL_perm hB0) hM1 (mKeys_fr u2 (by decide) hk) (Nat.le_refl _) ⟨fun p hp hlt => by
      have hsr : (List.range (cS a 1)).Pairwise (· ≤ ·) := (List.pairwise_lt_range (n := cS a 1)).imp (fun h => Nat.le_of_lt h)
      rcases sorted_le hsr hp with z | z
      · rw [z] at hlt; exact absurd hlt (lexLt_irr _)
      · exact absurd (lexLt_tr hlt z) (lexLt_irr _), Or.inl rfl⟩
  -- the two are the same
  obtain ⟨g1, g2⟩ := mrg_rng x3.1
  have hCr : CL a (mrg (idl a 0 (cS a 1)) b) = B := by
    rw [← CL_filter, g2]; exact x3.2.1
  have hq' : QL a (b'.filter (waitB a)) := w2.filter _
  have hCq : CL a (b'.filter (waitB a)) = B' := by rw [CL_filter]; exact w5.2.1
  have e1 := (w5.2.2 _ g1).1
  have e2 := (x3.2.2 _ hq').1
  have hBB : B = B' := by omega
  have hle1 : lexLe b' (mrg (idl a 0 (cS a 1)) b) := (w5.2.2 _ g1).2 (by omega)
  have hle2 : lexLe (mrg (idl a 0 (cS a 1)) b) b' := by
    refine mrg_le (W := waitB a) (idl_sorted a _ _) ?_ ((x3.2.2 _ hq').2 (by omega)) (x3.1.trans hq'.symm) (fun k hk => (idl_mem hk).1)
    rw [idl_eq, ← List.range_eq_range']
    exact w2.filter _
  have hbb : mrg (idl a 0 (cS a 1)) b = b' := by
    rcases hle2 with z | z
    · exact z
    · exact absurd (lexLe_lt hle1 z) (lexLt_irr _)
  rw [hbb] at x4
  refine ⟨nI B, σ', τ2, x1, ?_, aO a b', wfA_mono hA, aO_wf (m := 1) (t := t) w2 hB, wfC_mono hC, hD, ?_, w3, w4⟩
  · unfold fX11_plan
    rw [m1, if_pos (ix_nI hv (by decide)), ldA_nI _ 8 v (by omega), m2, lt_def, lt_def, hBB]
    exact u1.trans w1
  · obtain ⟨xT, xP, xS, xTb, xR, xSc, ⟨y18, y19, y20, yw, y53, y54, y56, y55, y45, y57⟩, xPo⟩ := hX
    refine ⟨xTape_fr x2 xT (by decide) (by decide) (by decide), xPlace_fr x2 xP (by decide) (by decide) (by decide), xSpan_fr x2 xS (by decide) (by decide) (by decide), xTab_fr x2 xTb (by decide) (by decide) (by decide), xRead_fr x2 xR (by decide) (by decide) (by decide), xScr_fr x2 xSc (by decide) (by decide) (by decide), ⟨?_, ?_, ?_, ?_, ?_, fun k hk => ?_, ?_, ?_, ?_, ?_⟩, xPost_fr x2 xPo (by decide) (by decide) (by decide)⟩
    · rw [x2.1 18 (by decide)]; exact y18
    · rw [x2.1 19 (by decide)]; exact y19
    · rw [x2.1 20 (by decide)]; exact y20
    · rw [x2.1 21 (by decide)]; exact yw
    · rw [x2.2.1 53 (by decide)]; exact y53
    · show _ = nI (if k < cS a 1 then b'.getD k 0 else cN a 13 k)
      by_cases c : k < cS a 1
      · rw [if_pos c]; exact x4 k c
      · rw [if_neg c, x5 k (by omega)]; exact y54 k hk
    · rw [x2.2.1 56 (by decide)]; exact y56
    · rw [x2.2.1 55 (by decide)]; exact y55
    · rw [x2.2.2 45 (by decide)]; exact y45
    · rw [x2.2.1 57 (by decide)]; exact y57
theorem sim_plan : SimStep Rel0 (fX10_plan FU) (fX11_plan FU) := plan_gen (by decide)
