/-! ===== PURE: the class runs ahead: a host begins; the next change ===== -/
theorem find_idx {P : Nat → Bool} : ∀ (l : List Nat) (p : Nat), p < l.length → P (l.getD p 0) = true → (∀ j, j < p → P (l.getD j 0) = false) → l.find? P = some (l.getD p 0) := by
  intro l
  induction l with
  | nil => intro p hp; exact absurd hp (Nat.not_lt_zero p)
  | cons x xs ih =>
    intro p hp h1 h2
    cases p with
    | zero =>
      have h1' : P x = true := h1
      rw [List.find?_cons, h1']; rfl
    | succ p =>
      have h0 : P x = false := h2 0 (Nat.succ_pos p)
      rw [List.find?_cons, h0]
      show xs.find? P = some (xs.getD p 0)
      exact ih p (by simpa using hp) h1 (fun j hj => h2 (j + 1) (by omega))
theorem find_no {P : Nat → Bool} {l : List Nat} (h : ∀ j, j < l.length → P (l.getD j 0) = false) : l.find? P = none := by
  refine List.find?_eq_none.mpr (fun k hk => ?_)
  obtain ⟨i, hi, rfl⟩ := List.mem_iff_getElem.mp hk
  have := h i hi
  simp [hi] at this
  rw [this]; decide
theorem xSetEnd {a : AS} {σ : ST} {k e C : Nat} (hB : wfBg 0 0 a) (hX : XR a σ) (hO : XO a σ) (h26 : gI σ 26 = nI C) (hk : k < cS a 1) (he : e ≤ 400) (hle : soE a k ≤ e) : fX1_setEnd (nI k) (nI e) σ = some (sI (sA σ 61 (upd (gA σ 61) k (nI e))) 26 (nI (C + (costA a k e - costA a k (soE a k))))) := by
  have hK := hB.1.1
  have i7 : ix (nI k) 7 := ix_nI (by omega) (by decide)
  unfold fX1_setEnd
  rw [if_pos i7, stA_nI σ 61 k _ (by omega), lt_def]
  have f1 : fr [] [61] [] σ (sA σ 61 (upd (gA σ 61) k (nI e))) := fr_sA fr_rf (by decide)
  have hX1 := XR_fo (fr_up f1 (by decide) (by decide) (by decide)) hX
  rw [xCost hX1 hB hk (by omega), Option.bind_some]
  simp only [if_pos i7]
  rw [ldA_nI _ 60 k (by omega), gA_sA, if_neg (show ¬ (60 = 61) by decide), (hO.1 k hk).2, xCost hX1 hB hk (by omega), Option.bind_some]
  simp only [lt_def]
  rw [pk_sub (costA_mono hle), gI_sA, h26, nI_add]
def xTl (x1 x2 x3 : Int32) (σ : ST) : Option ST := (if x3 = ((-1 : Int32)) then (some σ) else (if ix x3 7 then (lt (ldA σ 63 x3) (fun x4_31 => (lt (sI σ 23 ((gI σ 23) ||| (((1 : Int32)) <<< (x4_31 &&& 31)))) (fun σ_32 => (if ix x4_31 7 then (Option.bind (fX1_setEnd x4_31 (if ((x2 + (ldA σ_32 21 x4_31)) - ((1 : Int32))) < ((400 : Int32)) then ((x2 + (ldA σ_32 21 x4_31)) - ((1 : Int32))) else ((400 : Int32))) σ_32) (fun q_34 => (if ix x4_31 7 then (if ix x1 3 then (lt (stA q_34 62 x1 ((ldA q_34 61 x4_31) + ((1 : Int32)))) (fun σ_37 => (some σ_37))) else none) else none))) else none))))) else none))
theorem xBf_eq (n : Nat) (x1 x2 : Int32) (σ : ST) : fX1_beginFirst n x1 x2 σ = fX1_beginFirst_L5 (fun x1 x2 x3 σ => xTl x1 x2 x3 (sI σ 27 (if (gI σ 27) < (x3 + ((1 : Int32))) then (x3 + ((1 : Int32))) else (gI σ 27)))) xTl n x1 x2 (-1) 0 σ := rfl
theorem xTail {a : AS} {l : List Nat} {s : RS} {t h p d : Nat} {σ : ST} (hB : wfBg 0 0 a) (hX : XR a σ) (hO : XO a σ) (hQ : XQ l σ) (hL : QL a l) (hT : XT a s d σ) (hI : RI a t s) (hh : h < 3) (ht : t ≤ 399) (hp : p < l.length) (hr : rdyB a t s (l.getD p 0) = true) : ∃ σ', xTl (nI h) (nI t) (nI p) σ = some σ' ∧ fr [23, 26] [61, 62] [] σ σ' ∧ XT a (putS a t h (l.getD p 0) s) d σ' := by
  have hK := hB.1.1
  have hs := hs_of hB
  have hkK : l.getD p 0 < cS a 1 := q_in hL _ (getD_mem hp)
  have hw : waitB a (l.getD p 0) = true := ((q_mem hL).mp (getD_mem hp)).2
  have e63 := hQ.2 p hp
  have hl7 := q_len7 hL hK
  have hse := soE_le_beg hs hkK hI.1 hr
  have hbl := bg_lt hs hI
  generalize hk : l.getD p 0 = k at hr hkK hw e63 hse
  have bt := hB.1.2.2.2 k hkK
  have i7 : ix (nI k) 7 := ix_nI (by omega) (by decide)
  have hbk : s.2.2.testBit k = false := ((rdyB_iff (pt128 hs hkK)).mp hr).2.1
  unfold xTl
  rw [if_neg (nI_ne_m1 (by omega)), if_pos (ix_nI (show p < 7 by omega) (by decide)), ldA_nI _ 63 p (by omega), e63, lt_def, lt_def, if_pos i7, hT.2.2.1, nI_shl1 (by omega), nI_or]
  generalize hs1 : sI σ 23 (nI (s.2.2 ||| 2 ^ k)) = σ1
  have f1 : fr [23, 26] [61, 62] [] σ σ1 := by rw [← hs1]; exact fr_sI fr_rf (by decide)
  have g23 : gI σ1 23 = nI (s.2.2 ||| 2 ^ k) := by rw [← hs1]; rfl
  have g26 : gI σ1 26 = nI (cstS a s) := by rw [← hs1]; exact hT.2.2.2.1
  have g27 : gI σ1 27 = nI d := by rw [← hs1]; exact hT.2.2.2.2
  have g61 : gA σ1 61 = gA σ 61 := by rw [← hs1]; rfl
  have g62 : gA σ1 62 = gA σ 62 := by rw [← hs1]; rfl
  clear hs1
  have hX1 := XR_fo (fr_up f1 (by decide) (by decide) (by decide)) hX
  have hO1 := XO_fr f1 hO (by decide) (by decide) (by decide)
  rw [ldA_nI _ 21 k (by omega), (hX1.2.2.2.2.2.1.2.2.1 k hkK).1, nI_add, show (1 : Int32) = nI 1 from rfl, pk_sub (by omega), nI_min4 (by omega), xSetEnd hB hX1 hO1 g26 hkK (by omega) hse, Option.bind_some, if_pos i7, if_pos (ix_nI hh (by decide)), ldA_nI _ 61 k (by omega), gA_sI, gA_sA, if_pos rfl, upd_at, if_pos rfl, show (nI 1 : Int32) = 1 from rfl, nI_1, stA_nI _ 62 h _ (by omega), lt_def]
  refine ⟨_, rfl, fr_sA (fr_sI (fr_sA f1 (by decide)) (by decide)) (by decide), fun j hj => ?_, fun q hq => ?_, ?_, ?_, ?_⟩
  · show upd (gA σ1 61) k (nI (min 400 (t + cN a 0 k - 1))) j = nI (uN s.1 k (min 400 (t + cN a 0 k - 1)) j)
    rw [upd_at, uN_at, g61]
    split
    · rfl
    · exact hT.1 j hj
  · show upd (gA σ1 62) h (nI (min 400 (t + cN a 0 k - 1) + 1)) q = nI (uN s.2.1 h (min 400 (t + cN a 0 k - 1) + 1) q)
    rw [upd_at, uN_at, g62]
    split
    · rfl
    · exact hT.2.1 q hq
  · exact g23
  · show nI (cstS a s + (costA a k (min 400 (t + cN a 0 k - 1)) - costA a k (soE a k))) = nI (cstS a (putS a t h k s))
    have := cst_put (t := t) (h := h) hkK hw hbk
    have := costA_mono (a := a) (k := k) hse
    congr 1; omega
  · exact g27
theorem xBegB {l : List Nat} {P : Nat → Bool} {h t p : Nat} {σ : ST} (hl : l.length ≤ 7) (hp : p < 7) (hQ : XQ l σ) (hR : ∀ i, i < l.length → fX1_isReady (nI (l.getD i 0)) (nI t) σ = some (if P (l.getD i 0) = true then 1 else 0, σ)) (k34 k60 : Int32 → Int32 → Int32 → ST → Option ST) : ∀ dd i n, i + dd = l.length → dd < n →
    ((∀ q, i ≤ q → q < l.length → P (l.getD q 0) = false) → fX1_beginFirst_L5 k34 k60 n (nI h) (nI t) (nI p) (nI i) σ = k60 (nI h) (nI t) (nI p) σ) ∧ ((∃ q, i ≤ q ∧ q < l.length ∧ P (l.getD q 0) = true) → fX1_beginFirst_L5 k34 k60 n (nI h) (nI t) (nI p) (nI i) σ = k34 (nI h) (nI t) (nI p) σ) := by
  intro dd
  induction dd with
  | zero =>
    intro i n hi hn
    obtain ⟨m, rfl⟩ : ∃ m, n = m + 1 := ⟨n - 1, by omega⟩
    refine ⟨fun _ => ?_, fun ⟨q, h1, h2, _⟩ => by omega⟩
    rw [fX1_beginFirst_L5, hQ.1, if_pos (nI_le (by omega) (by omega))]
  | succ dd ih =>
    intro i n hi hn
    obtain ⟨m, rfl⟩ : ∃ m, n = m + 1 := ⟨n - 1, by omega⟩
    obtain ⟨i1, i2⟩ := ih (i + 1) m (by omega) (by omega)
    have hil : i < l.length := by omega
    rw [fX1_beginFirst_L5, hQ.1, if_neg (nI_ge hil (by omega)), if_pos (ix_nI (show i < 7 by omega) (by decide)), ldA_nI _ 63 i (by omega), hQ.2 i hil, hR i hil, Option.bind_some]
    simp only [pif, lt_def, nI_1]
    by_cases c : P (l.getD i 0) = true
    · rw [if_pos c, if_neg (nI_ne_m1 (by omega))]
      exact ⟨fun z => absurd ((z i (Nat.le_refl i) hil).symm.trans c) (by decide), fun _ => rfl⟩
    · rw [if_neg c]
      refine ⟨fun z => i1 (fun q h1 h2 => z q (by omega) h2), fun ⟨q, h1, h2, h3⟩ => i2 ⟨q, ?_, h2, h3⟩⟩
      rcases Nat.lt_or_ge i q with y | y
      · exact y
      · rw [show q = i by omega] at h3; exact absurd h3 c
theorem xBegA {l : List Nat} {P : Nat → Bool} {h t : Nat} {σ : ST} (hl : l.length ≤ 7) (hQ : XQ l σ) (hR : ∀ i, i < l.length → fX1_isReady (nI (l.getD i 0)) (nI t) σ = some (if P (l.getD i 0) = true then 1 else 0, σ)) (k34 k60 : Int32 → Int32 → Int32 → ST → Option ST) : ∀ dd i n, i + dd = l.length → dd + 20 < n →
    ((∀ q, i ≤ q → q < l.length → P (l.getD q 0) = false) → fX1_beginFirst_L5 k34 k60 n (nI h) (nI t) (-1) (nI i) σ = k60 (nI h) (nI t) (-1) σ) ∧ (∀ p, i ≤ p → p < l.length → P (l.getD p 0) = true → (∀ q, i ≤ q → q < p → P (l.getD q 0) = false) →
      ((∀ q, p < q → q < l.length → P (l.getD q 0) = false) → fX1_beginFirst_L5 k34 k60 n (nI h) (nI t) (-1) (nI i) σ = k60 (nI h) (nI t) (nI p) σ) ∧ ((∃ q, p < q ∧ q < l.length ∧ P (l.getD q 0) = true) → fX1_beginFirst_L5 k34 k60 n (nI h) (nI t) (-1) (nI i) σ = k34 (nI h) (nI t) (nI p) σ)) := by
  intro dd
  induction dd with
  | zero =>
    intro i n hi hn
    obtain ⟨m, rfl⟩ : ∃ m, n = m + 1 := ⟨n - 1, by omega⟩
    refine ⟨fun _ => ?_, fun p h1 h2 => by omega⟩
    rw [fX1_beginFirst_L5, hQ.1, if_pos (nI_le (by omega) (by omega))]
  | succ dd ih =>
    intro i n hi hn
    obtain ⟨m, rfl⟩ : ∃ m, n = m + 1 := ⟨n - 1, by omega⟩
    obtain ⟨i1, i2⟩ := ih (i + 1) m (by omega) (by omega)
    have hil : i < l.length := by omega
    rw [fX1_beginFirst_L5, hQ.1, if_neg (nI_ge hil (by omega)), if_pos (ix_nI (show i < 7 by omega) (by decide)), ldA_nI _ 63 i (by omega), hQ.2 i hil, hR i hil, Option.bind_some]
    simp only [pif, lt_def, nI_1]
    by_cases c : P (l.getD i 0) = true
    · rw [if_pos c, if_pos trivial]
      refine ⟨fun z => absurd ((z i (Nat.le_refl i) hil).symm.trans c) (by decide), fun p h1 h2 h3 h4 => ?_⟩
      have ep : p = i := by
        rcases Nat.lt_or_ge i p with z | z
        · rw [h4 i (Nat.le_refl i) z] at c; cases c
        · omega
      subst ep
      obtain ⟨b1, b2⟩ := xBegB (P := P) (h := h) (t := t) (p := p) hl (by omega) hQ hR k34 k60 dd (p + 1) m (by omega) (by omega)
      exact ⟨fun z => b1 (fun q h1 h2 => z q (by omega) h2), fun ⟨q, h1, h2, h3⟩ => b2 ⟨q, by omega, h2, h3⟩⟩
    · rw [if_neg c]
      refine ⟨fun z => i1 (fun q h1 h2 => z q (by omega) h2), fun p h1 h2 h3 h4 => i2 p ?_ h2 h3 (fun q z1 z2 => h4 q (by omega) z2)⟩
      rcases Nat.lt_or_ge i p with y | y
      · exact y
      · rw [show p = i by omega] at h3; exact absurd h3 c
theorem EN_put {a : AS} {s : RS} {t h k : Nat} {σ σ' : ST} (hs : hs0 a) (hk : k < cS a 1) (ht : t ≤ 399) (h4 : t ≤ s.1 k) (e24 : gI σ' 24 = gI σ 24) (hE : EN a t s σ) : EN a t (putS a t h k s) σ' := by
  obtain ⟨e, e1, e2, e3⟩ := hE
  refine ⟨e, e24.trans e1, e2, fun j hj => ?_⟩
  show _ ↔ uN s.1 k (min 400 (t + cN a 0 k - 1)) j < t
  rw [uN_at]
  by_cases c : j = k
  · rw [if_pos c, e3 j hj, c]
    have := min_ge (a := a) (t := t) hs hk (by omega)
    omega
  · rw [if_neg c]; exact e3 j hj
theorem xBegF {a : AS} {l : List Nat} {s : RS} {t h d n : Nat} {σ : ST} (hn : 100 ≤ n) (hA : wfA 600 a) (hB : wfBg 0 0 a) (hX : XR a σ) (hO : XO a σ) (hQ : XQ l σ) (hL : QL a l) (hT : XT a s d σ) (hd : d ≤ 7) (hE : EN a t s σ) (hI : RI a t s) (hh : h < 3) (ht : t ≤ 399) (hf : s.2.1 h ≤ t) :
    ∃ σ' d', fX1_beginFirst n (nI h) (nI t) σ = some σ' ∧ fr [23, 26, 27] [61, 62] [] σ σ' ∧ XT a (begS a l t h s) d' σ' ∧ EN a t (begS a l t h s) σ' ∧ d ≤ d' ∧ d' ≤ 7 ∧ decOk d' l (rdyB a t s) := by
  have hK := hB.1.1
  have hs := hs_of hB
  have hl7 := q_len7 hL hK
  have hR : ∀ i, i < l.length → fX1_isReady (nI (l.getD i 0)) (nI t) σ = some (if rdyB a t s (l.getD i 0) = true then 1 else 0, σ) := fun i hi => by
    have := (q_mem hL).mp (getD_mem hi)
    exact xRdy (by omega) hA hB hI hX hO hT hE this.1 this.2
  obtain ⟨b1, b2⟩ := xBegA (P := rdyB a t s) (h := h) (t := t) hl7 hQ hR (fun x1 x2 x3 σ => xTl x1 x2 x3 (sI σ 27 (if (gI σ 27) < (x3 + ((1 : Int32))) then (x3 + ((1 : Int32))) else (gI σ 27)))) xTl l.length 0 n (by omega) (by omega)
  rw [xBf_eq, show (0 : Int32) = nI 0 from rfl]
  rcases leastP (fun i => rdyB a t s (l.getD i 0) = true) l.length with hno | ⟨p, p1, p2, p3⟩
  · have hno' : ∀ j, j < l.length → rdyB a t s (l.getD j 0) = false := fun j hj => by simpa using hno j hj
    have hf0 := find_no hno'
    have hb : begS a l t h s = s := by unfold begS; rw [if_pos hf, hf0]
    rw [b1 (fun q _ hq => hno' q hq), hb]
    exact ⟨σ, d, by unfold xTl; rw [if_pos rfl], fr_rf, hT, hE, Nat.le_refl _, hd, Or.inl hf0⟩
  · have p3' : ∀ j, j < p → rdyB a t s (l.getD j 0) = false := fun j hj => by simpa using p3 j hj
    have hfi := find_idx l p p1 p2 p3'
    have hb : begS a l t h s = putS a t h (l.getD p 0) s := by unfold begS; rw [if_pos hf, hfi]
    have hkK : l.getD p 0 < cS a 1 := q_in hL _ (getD_mem p1)
    have r := (rdyB_iff (pt128 hs hkK)).mp p2
    have h400 := hI.2.1 _ hkK r.1 r.2.1
    obtain ⟨c1, c2⟩ := b2 p (Nat.zero_le _) p1 p2 (fun q _ hq => p3' q hq)
    rw [hb]
    by_cases ex : ∃ q, p < q ∧ q < l.length ∧ rdyB a t s (l.getD q 0) = true
    · rw [c2 ex]
      show ∃ σ' d', xTl (nI h) (nI t) (nI p) (sI σ 27 (if (gI σ 27) < (nI p + ((1 : Int32))) then (nI p + ((1 : Int32))) else (gI σ 27))) = some σ' ∧ _
      rw [hT.2.2.2.2, nI_1, nI_max (by omega) (by omega)]
      have f1 : fr [23, 26, 27] [61, 62] [] σ (sI σ 27 (nI (max d (p + 1)))) := fr_sI fr_rf (by decide)
      have hX1 := XR_fo (fr_up f1 (by decide) (by decide) (by decide)) hX
      obtain ⟨σ', r1, r2, r3⟩ := xTail (a := a) (l := l) (s := s) (t := t) (h := h) (p := p) (d := max d (p + 1)) hB hX1 (XO_fr f1 hO (by decide) (by decide) (by decide)) (XQ_fr f1 hQ (by decide) (by decide)) hL ⟨hT.1, hT.2.1, hT.2.2.1, hT.2.2.2.1, rfl⟩ hI hh ht p1 p2
      have f2 : fr [23, 26, 27] [61, 62] [] σ σ' := fr_tr f1 (fr_up r2 (by decide) (by decide) (by decide))
      refine ⟨σ', max d (p + 1), r1, f2, r3, EN_put hs hkK ht (by omega) (f2.1 24 (by decide)) hE, by omega, by omega, Or.inr (Or.inl ?_)⟩
      rw [List.any_eq_true]
      refine ⟨l.getD p 0, ?_, p2⟩
      have hg : l.getD p 0 = l[p] := by simp [p1]
      rw [hg, List.mem_take_iff_getElem]
      exact ⟨p, by omega, rfl⟩
    · have hn2 : ∀ q, p < q → q < l.length → rdyB a t s (l.getD q 0) = false := fun q h1 h2 => by
        cases z : rdyB a t s (l.getD q 0)
        · rfl
        · exact absurd ⟨q, h1, h2, z⟩ ex
      rw [c1 hn2]
      obtain ⟨σ', r1, r2, r3⟩ := xTail (a := a) (l := l) (s := s) (t := t) (h := h) (p := p) (d := d) hB hX hO hQ hL hT hI hh ht p1 p2
      have f2 : fr [23, 26, 27] [61, 62] [] σ σ' := fr_up r2 (by decide) (by decide) (by decide)
      refine ⟨σ', d, r1, f2, r3, EN_put hs hkK ht (by omega) (f2.1 24 (by decide)) hE, Nat.le_refl _, hd, Or.inr (Or.inr ⟨l.getD p 0, hfi, fun k hk hr => ?_⟩)⟩
      obtain ⟨i, hi, rfl⟩ := List.mem_iff_getElem.mp hk
      have hg : l.getD i 0 = l[i] := by simp [hi]
      rw [← hg] at hr ⊢
      rcases Nat.lt_trichotomy i p with z | z | z
      · rw [p3' i z] at hr; cases hr
      · rw [z]
      · rw [hn2 i z hi] at hr; cases hr
/-- the next change -/
theorem xChH {a : AS} {s : RS} {t H : Nat} {σ : ST} (ht : t < 2 ^ 31) (hH : H ≤ 3) (h19 : gI σ 19 = nI H) (h62 : ∀ h, h < 3 → gA σ 62 h = nI (s.2.1 h)) (hf : ∀ h, h < 3 → s.2.1 h ≤ 401) (k44 : Int32 → Int32 → ST → Option (Int32 × ST)) : ∀ d h n v, h + d = H → d < n → v ≤ 400 → (∀ q, q < h → t < s.2.1 q → v ≤ s.2.1 q) → ∃ v', fX1_nextChange_L6 k44 n (nI t) (nI v) (nI h) σ = k44 (nI t) (nI v') σ ∧ v' ≤ 400 ∧ ∀ q, q < H → t < s.2.1 q → v' ≤ s.2.1 q := by
  intro d
  induction d with
  | zero =>
    intro h n v hh hn hv hq
    obtain ⟨m, rfl⟩ : ∃ m, n = m + 1 := ⟨n - 1, by omega⟩
    have : h = H := by omega
    subst this
    exact ⟨v, by rw [fX1_nextChange_L6, h19, if_pos (nI_le (Nat.le_refl _) (by omega))], hv, hq⟩
  | succ d ih =>
    intro h n v hh hn hv hq
    obtain ⟨m, rfl⟩ : ∃ m, n = m + 1 := ⟨n - 1, by omega⟩
    have h3 : h < 3 := by omega
    have i3 : ix (nI h) 3 := ix_nI h3 (by decide)
    have hfh := hf h h3
    rw [fX1_nextChange_L6, h19, if_neg (nI_ge (by omega) (by omega)), if_pos i3, ldA_nI _ 62 h (by omega), h62 h h3]
    simp only [lt_def, if_pos i3]
    by_cases c : s.2.1 h ≤ t
    · rw [if_pos (nI_le c ht), nI_1]
      exact ih (h + 1) m v (by omega) (by omega) hv (fun q h1 h2 => by
        rcases Nat.lt_or_ge q h with z | z
        · exact hq q z h2
        · rw [show q = h by omega] at h2; omega)
    · rw [if_neg (nI_ge (by omega) (by omega)), nI_min (by omega) (by omega), nI_1]
      exact ih (h + 1) m (min v (s.2.1 h)) (by omega) (by omega) (by omega) (fun q h1 h2 => by
        rcases Nat.lt_or_ge q h with z | z
        · have := hq q z h2; omega
        · rw [show q = h by omega]; omega)
theorem xChQ {l : List Nat} {op : Nat → Nat} {t : Nat} {σ : ST} (ht : t < 2 ^ 31) (hl : l.length ≤ 7) (hQ : XQ l σ) (hk7 : ∀ i, i < l.length → l.getD i 0 < 7) (h59 : ∀ i, i < l.length → gA σ 59 (l.getD i 0) = nI (op (l.getD i 0))) (ho : ∀ i, i < l.length → op (l.getD i 0) ≤ 400) : ∀ d i n v, i + d = l.length → d < n → v ≤ 400 → (∀ q, q < i → t < op (l.getD q 0) → v ≤ op (l.getD q 0)) → ∃ v', fX1_nextChange_L46 n (nI t) (nI v) (nI i) σ = some (nI v', σ) ∧ v' ≤ v ∧ ∀ q, q < l.length → t < op (l.getD q 0) → v' ≤ op (l.getD q 0) := by
  intro d
  induction d with
  | zero =>
    intro i n v hi hn hv hq
    obtain ⟨m, rfl⟩ : ∃ m, n = m + 1 := ⟨n - 1, by omega⟩
    have : i = l.length := by omega
    subst this
    exact ⟨v, by rw [fX1_nextChange_L46, hQ.1, if_pos (nI_le (Nat.le_refl _) (by omega))], Nat.le_refl _, hq⟩
  | succ d ih =>
    intro i n v hi hn hv hq
    obtain ⟨m, rfl⟩ : ∃ m, n = m + 1 := ⟨n - 1, by omega⟩
    have hil : i < l.length := by omega
    have i7 : ix (nI i) 7 := ix_nI (by omega) (by decide)
    have hoi := ho i hil
    have ik7 : ix (nI (l.getD i 0)) 7 := ix_nI (hk7 i hil) (by decide)
    have e59 : ldA σ 59 (nI (l.getD i 0)) = nI (op (l.getD i 0)) := by rw [ldA_nI _ 59 _ (by have := hk7 i hil; omega)]; exact h59 i hil
    rw [fX1_nextChange_L46, hQ.1, if_neg (nI_ge hil (by omega)), if_pos i7, ldA_nI _ 63 i (by omega), hQ.2 i hil, if_pos ik7, e59]
    simp only [lt_def, if_pos i7, if_pos ik7]
    by_cases c : op (l.getD i 0) ≤ t
    · rw [if_pos (nI_le c ht), nI_1]
      exact ih (i + 1) m v (by omega) (by omega) hv (fun q h1 h2 => by
        rcases Nat.lt_or_ge q i with z | z
        · exact hq q z h2
        · rw [show q = i by omega] at h2; omega)
    · rw [if_neg (nI_ge (by omega) (by omega)), nI_min (by omega) (by omega), nI_1]
      obtain ⟨v', r1, r2, r3⟩ := ih (i + 1) m (min v (op (l.getD i 0))) (by omega) (by omega) (by omega) (fun q h1 h2 => by
        rcases Nat.lt_or_ge q i with z | z
        · have := hq q z h2; omega
        · rw [show q = i by omega]; omega)
      exact ⟨v', r1, by omega, r3⟩
theorem xChange {a : AS} {l : List Nat} {s : RS} {t d n : Nat} {σ : ST} (hn : 100 ≤ n) (ht : t ≤ 399) (hA : wfA 600 a) (hB : wfBg 0 0 a) (hX : XR a σ) (hO : XO a σ) (hQ : XQ l σ) (hL : QL a l) (hT : XT a s d σ) (hI : RI a t s) : ∃ v, fX1_nextChange n (nI t) σ = some (nI v, σ) ∧ v ≤ 400 ∧ (∀ q, q < cS a 4 → t < s.2.1 q → v ≤ s.2.1 q) ∧ (∀ k, k < cS a 1 → waitB a k = true → t < opA a k → v ≤ opA a k) := by
  have hK := hB.1.1
  have hl7 := q_len7 hL hK
  have hH := hB.2.1.2.2.1
  unfold fX1_nextChange
  simp only [lt_def]
  obtain ⟨v1, r1, r2, r3⟩ := xChH (a := a) (s := s) (t := t) (H := cS a 4) (σ := σ) (by omega) hH hX.2.2.2.2.2.2.1.2.1 hT.2.1 hI.2.2.2.2 (fun (x1_10 : Int32) (x2_11 : Int32) (σ_12 : ST) => (fX1_nextChange_L46 n x1_10 x2_11 0 σ_12)) (cS a 4) 0 n 400 (by omega) (by omega) (Nat.le_refl _) (fun q hq => absurd hq (Nat.not_lt_zero q))
  have hin : ∀ i, i < l.length → l.getD i 0 < cS a 1 := fun i hi => q_in hL _ (getD_mem hi)
  obtain ⟨v2, s1, s2, s3⟩ := xChQ (l := l) (op := opA a) (t := t) (σ := σ) (by omega) hl7 hQ (fun i hi => by have := hin i hi; omega) (fun i hi => (hO.1 _ (hin i hi)).1) (fun i hi => opG_le35 hA hB _) l.length 0 n v1 (by omega) (by omega) r2 (fun q hq => absurd hq (Nat.not_lt_zero q))
  refine ⟨v2, r1.trans s1, by omega, fun q hq hf => by have := r3 q hq hf; omega, fun k hk hw ho => ?_⟩
  have hm := (q_mem hL).mpr ⟨hk, hw⟩
  obtain ⟨i, hi, rfl⟩ := List.mem_iff_getElem.mp hm
  have hg : l.getD i 0 = l[i] := by simp [hi]
  have := s3 i hi (by rw [hg]; exact ho)
  rw [hg] at this; exact this
