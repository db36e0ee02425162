/-! ===== PURE: the reference foresees: may a step begin? ===== -/
theorem MR_fo {a : AS} {τ τ' : ST} (f : fr [] [44, 45, 46, 47, 48] [] τ τ') (h : MR a τ) : MR a τ' :=
  ⟨mTape_fr f h.1 (by decide) (by decide) (by decide), mPlace_fr f h.2.1 (by decide) (by decide) (by decide), mSpan_fr f h.2.2.1 (by decide) (by decide) (by decide), mTab_fr f h.2.2.2.1 (by decide) (by decide) (by decide), mRead_fr f h.2.2.2.2.1 (by decide) (by decide) (by decide), mScr_fr f h.2.2.2.2.2.1 (by decide) (by decide) (by decide), mWrk_fr f h.2.2.2.2.2.2.1 (by decide) (by decide) (by decide), mPost_fr f h.2.2.2.2.2.2.2 (by decide) (by decide) (by decide)⟩
def strt (a : AS) (s : RS) (k : Nat) : Prop := waitB a k = false ∨ s.2.2.testBit k = true
def MF (a : AS) (t : Nat) (s : RS) (p W : Nat → Nat) (τ : ST) : Prop :=
  (∀ k, k < cS a 1 → gA τ 45 k = if s.1 k < t then nI (s.1 k) else -1) ∧ (∀ h, h < 3 → gA τ 46 h = enc (p h)) ∧ (∀ h, h < 3 → cS a 4 ≤ h → p h = 0) ∧ (∀ h, h < cS a 4 → (p h = 0 ↔ s.2.1 h ≤ t)) ∧
  (∀ h, h < cS a 4 → p h ≠ 0 → p h ≤ cS a 1 ∧ s.2.1 h = s.1 (p h - 1) + 1 ∧ strt a s (p h - 1) ∧ gA τ 47 (p h - 1) = nI (W (p h - 1)) ∧ W (p h - 1) < cN a 0 (p h - 1) ∧ s.1 (p h - 1) = min 400 (t + cN a 0 (p h - 1) - W (p h - 1) - 1)) ∧
  (∀ h h', h < 3 → h' < 3 → p h ≠ 0 → p h = p h' → h = h') ∧ (∀ k, k < cS a 1 → strt a s k → t ≤ s.1 k → ∃ h, h < cS a 4 ∧ p h = k + 1)
theorem MF_le {a : AS} {t : Nat} {s : RS} {p W : Nat → Nat} {τ : ST} (hH : cS a 4 ≤ 3) (hM : MF a t s p W τ) : ∀ h, h < 3 → p h ≤ cS a 1 := by
  intro h hh
  rcases Nat.lt_or_ge h (cS a 4) with z | z
  · by_cases c : p h = 0
    · rw [c]; exact Nat.zero_le _
    · exact (hM.2.2.2.2.1 h z c).1
  · rw [hM.2.2.1 h hh z]; exact Nat.zero_le _
theorem mMayH {p : Nat → Nat} {τ : ST} {k H : Nat} {x2 : Int32} (hH : H ≤ 3) (hk : k < 7) (h19 : gI τ 19 = nI H) (h46 : ∀ h, h < 3 → gA τ 46 h = enc (p h)) (hp : ∀ h, h < 3 → p h ≤ 7) (k40 : Int32 → Int32 → ST → Option (Int32 × ST)) : ∀ d h n, h + d = H → d < n →
    ((∃ q, h ≤ q ∧ q < H ∧ p q = k + 1) → fX11_mayBegin_L14 k40 n (nI k) x2 (nI h) τ = some (0, τ)) ∧ ((¬ ∃ q, h ≤ q ∧ q < H ∧ p q = k + 1) → fX11_mayBegin_L14 k40 n (nI k) x2 (nI h) τ = k40 (nI k) x2 τ) := by
  intro d
  induction d with
  | zero =>
    intro h n hh hn
    obtain ⟨m, rfl⟩ : ∃ m, n = m + 1 := ⟨n - 1, by omega⟩
    refine ⟨fun ⟨q, h1, h2, _⟩ => by omega, fun _ => ?_⟩
    rw [fX11_mayBegin_L14, h19, if_pos (nI_le (by omega) (by omega))]
  | succ d ih =>
    intro h n hh hn
    obtain ⟨m, rfl⟩ : ∃ m, n = m + 1 := ⟨n - 1, by omega⟩
    obtain ⟨i1, i2⟩ := ih (h + 1) m (by omega) (by omega)
    have h3 : h < 3 := by omega
    rw [fX11_mayBegin_L14, h19, if_neg (nI_ge (by omega) (by omega)), if_pos (ix_nI h3 (by decide)), ldA_nI _ 46 h (by omega), h46 h h3, lt_def, nI_1]
    have hc := enc_eq (hp h h3) hk
    by_cases e : p h = k + 1
    · rw [if_pos (hc.mpr e)]
      exact ⟨fun _ => rfl, fun z => absurd ⟨h, Nat.le_refl h, by omega, e⟩ z⟩
    · rw [if_neg (fun q => e (hc.mp q))]
      refine ⟨fun ⟨q, h1, h2, h4⟩ => i1 ⟨q, ?_, h2, h4⟩, fun z => i2 (fun ⟨q, h1, h2, h4⟩ => z ⟨q, by omega, h2, h4⟩)⟩
      rcases Nat.lt_or_ge h q with y | y
      · exact y
      · rw [show q = h by omega] at h4; exact absurd h4 e
theorem mMayT {a : AS} {τ : ST} {k v t : Nat} {ld : Nat → Nat} (hv : v < 2) (hk : k < 7) (ht : t < 2 ^ 31) (h11 : gI τ 11 = nI v) (e16 : gA τ 16 (7 * v + k) = nI (cN a 3 k)) (h3 : cN a 3 k < 64) (e48 : ∀ x, x < 6 → gA τ 48 x = nI (ld x)) (hl : ∀ x, x < 6 → ld x ≤ 400) (k88 : Int32 → ST → Option (Int32 × ST)) : ∀ d x n, x + d = 6 → d < n →
    ((∀ q, x ≤ q → q < 6 → (cN a 3 k).testBit q = true → ld q ≤ t) → fX11_mayBegin_L42 k88 n (nI k) (nI t) (nI x) τ = k88 (nI k) τ) ∧ ((∃ q, x ≤ q ∧ q < 6 ∧ (cN a 3 k).testBit q = true ∧ t < ld q) → fX11_mayBegin_L42 k88 n (nI k) (nI t) (nI x) τ = some (0, τ)) := by
  intro d
  induction d with
  | zero =>
    intro x n hx hn
    obtain ⟨m, rfl⟩ : ∃ m, n = m + 1 := ⟨n - 1, by omega⟩
    have : x = 6 := by omega
    subst this
    refine ⟨fun _ => ?_, fun ⟨q, h1, h2, _⟩ => by omega⟩
    rw [fX11_mayBegin_L42, if_pos (show (6 : Int32) ≤ nI 6 by decide)]
  | succ d ih =>
    intro x n hx hn
    obtain ⟨m, rfl⟩ : ∃ m, n = m + 1 := ⟨n - 1, by omega⟩
    have hx6 : x < 6 := by omega
    obtain ⟨i1, i2⟩ := ih (x + 1) m (by omega) (by omega)
    have hlx := hl x hx6
    rw [fX11_mayBegin_L42, if_neg (show ¬ (6 : Int32) ≤ nI x from nI_ge hx6 (by decide)), h11, m7, if_pos (ix_nI (show 7 * v + k < 14 by omega) (by decide)), ldA_nI _ 16 _ (by omega), e16]
    simp only [lt_def, nI_1]
    by_cases c : (cN a 3 k).testBit x = true
    · rw [if_pos ((bit_one (by omega) (by omega)).mpr c), if_pos (ix_nI hx6 (by decide)), ldA_nI _ 48 x (by omega), e48 x hx6]
      by_cases z : ld x ≤ t
      · rw [if_pos (nI_le z ht)]
        refine ⟨fun h => i1 (fun q h1 => h q (by omega)), fun ⟨q, h1, h2, h3, h4⟩ => i2 ⟨q, ?_, h2, h3, h4⟩⟩
        rcases Nat.lt_or_ge x q with y | y
        · exact y
        · rw [show q = x by omega] at h4; omega
      · rw [if_neg (nI_ge (by omega) (by omega))]
        exact ⟨fun h => by have := h x (Nat.le_refl x) hx6 c; omega, fun _ => rfl⟩
    · rw [if_neg (fun q => c ((bit_one (by omega) (by omega)).mp q))]
      refine ⟨fun h => i1 (fun q h1 => h q (by omega)), fun ⟨q, h1, h2, h3, h4⟩ => i2 ⟨q, ?_, h2, h3, h4⟩⟩
      rcases Nat.lt_or_ge x q with y | y
      · exact y
      · rw [show q = x by omega] at h3; exact absurd h3 c
theorem mMayP {a : AS} {τ : ST} {k v t : Nat} {en : Nat → Nat} (hv : v < 2) (hk : k < 7) (h11 : gI τ 11 = nI v) (e17 : gA τ 17 (7 * v + k) = nI (cN a 4 k)) (h4 : cN a 4 k < 128) (e45 : ∀ j, j < k → gA τ 45 j = if en j < t then nI (en j) else -1) (hen : ∀ j, j < k → en j ≤ 400) : ∀ d x n, x + d = k → d < n →
    ((∀ q, x ≤ q → q < k → (cN a 4 k).testBit q = true → en q < t) → fX11_mayBegin_L90 n (nI k) (nI x) τ = some (1, τ)) ∧ ((∃ q, x ≤ q ∧ q < k ∧ (cN a 4 k).testBit q = true ∧ ¬ en q < t) → fX11_mayBegin_L90 n (nI k) (nI x) τ = some (0, τ)) := by
  intro d
  induction d with
  | zero =>
    intro x n hx hn
    obtain ⟨m, rfl⟩ : ∃ m, n = m + 1 := ⟨n - 1, by omega⟩
    have : x = k := by omega
    subst this
    refine ⟨fun _ => ?_, fun ⟨q, h1, h2, _⟩ => by omega⟩
    rw [fX11_mayBegin_L90, if_pos (nI_le (Nat.le_refl x) (by omega))]
  | succ d ih =>
    intro x n hx hn
    obtain ⟨m, rfl⟩ : ∃ m, n = m + 1 := ⟨n - 1, by omega⟩
    have hxk : x < k := by omega
    obtain ⟨i1, i2⟩ := ih (x + 1) m (by omega) (by omega)
    have hex := hen x hxk
    rw [fX11_mayBegin_L90, if_neg (nI_ge hxk (by omega)), h11, m7, if_pos (ix_nI (show 7 * v + k < 14 by omega) (by decide)), ldA_nI _ 17 _ (by omega), e17]
    simp only [lt_def, nI_1]
    by_cases c : (cN a 4 k).testBit x = true
    · rw [if_pos ((bit_one (by omega) (by omega)).mpr c), if_pos (ix_nI (show x < 7 by omega) (by decide)), ldA_nI _ 45 x (by omega), e45 x hxk]
      by_cases z : en x < t
      · rw [if_pos z, if_neg (nI_ne_m1 (by omega))]
        refine ⟨fun h => i1 (fun q h1 => h q (by omega)), fun ⟨q, h1, h2, h3, h4⟩ => i2 ⟨q, ?_, h2, h3, h4⟩⟩
        rcases Nat.lt_or_ge x q with y | y
        · exact y
        · rw [show q = x by omega] at h4; exact absurd z h4
      · rw [if_neg z, if_pos rfl]
        exact ⟨fun h => absurd (h x (Nat.le_refl x) hxk c) z, fun _ => rfl⟩
    · rw [if_neg (fun q => c ((bit_one (by omega) (by omega)).mp q))]
      refine ⟨fun h => i1 (fun q h1 => h q (by omega)), fun ⟨q, h1, h2, h3, h4⟩ => i2 ⟨q, ?_, h2, h3, h4⟩⟩
      rcases Nat.lt_or_ge x q with y | y
      · exact y
      · rw [show q = x by omega] at h3; exact absurd h3 c
theorem lnd_le {a : AS} {ld : Nat → Nat} {x : Nat} (h3 : cS a 3 ≤ 399) (hl : ld x ≤ 399) : lnd a ld x ≤ 400 := by unfold lnd; split <;> omega
theorem mMay {a : AS} {τ : ST} {n k t : Nat} {s : RS} {p W : Nat → Nat} (hn : 100 ≤ n) (hA : wfA 600 a) (hB : wfBg 0 0 a) (hM : MR a τ) (ht0 : cS a 3 + 1 ≤ t) (ht : t ≤ 399) (hk : k < cS a 1) (hI : RI a t s) (hF : MF a t s p W τ) (h48 : ∀ x, x < 6 → gA τ 48 x = nI (lnd a (cN a 10) x)) : fX11_mayBegin n (nI k) (nI t) τ = some (if rdyB a t s k = true then 1 else 0, τ) := by
  have hs := hs_of hB
  have hK := hB.1.1
  have hH := hB.2.1.2.2.1
  have hk7 : k < 7 := by omega
  have bt := hB.1.2.2.2 k hk
  have h128 := pt128 hs hk
  have hr := rdyB_iff (t := t) (s := s) h128
  obtain ⟨v, hv, s11, s8, sK, sC⟩ := hM.2.2.2.2.2.1
  have sk := sK k hk
  have hp7 := fun h hh => Nat.le_trans (MF_le hH hF h hh) hK
  have hl : ∀ x, x < 6 → lnd a (cN a 10) x ≤ 400 := fun x hx => lnd_le hB.2.1.1 (hA.2.1 x hx).2
  obtain ⟨f45, f46, f0, fz, fp, fd, fj⟩ := hF
  obtain ⟨a1, a2⟩ := mMayH (x2 := nI t) hH hk7 hM.2.2.2.2.2.2.1.2.1 f46 hp7 (fun (x1_8 : Int32) (x2_9 : Int32) (σ_10 : ST) => (fX11_mayBegin_L42 (fun (x1_19 : Int32) (σ_20 : ST) => (fX11_mayBegin_L90 n x1_19 0 σ_20)) n x1_8 x2_9 0 σ_10)) (cS a 4) 0 n (by omega) (by omega)
  obtain ⟨t1, t2⟩ := mMayT (a := a) (ld := lnd a (cN a 10)) hv hk7 (show t < 2 ^ 31 by omega) s11 sk.2.2.2.2.1 bt.2.2.2.2.2.1 h48 hl (fun (x1_19 : Int32) (σ_20 : ST) => (fX11_mayBegin_L90 n x1_19 0 σ_20)) 6 0 n (by omega) (by omega)
  obtain ⟨p1, p2⟩ := mMayP (a := a) (t := t) (en := s.1) hv hk7 s11 sk.2.2.2.2.2.1 h128 (fun j hj => f45 j (by omega)) (fun j hj => (hI.1 j (by omega)).2) k 0 n (by omega) (by omega)
  have hop := lnd_op (a := a) (ld := cN a 10) (k := k) (t := t) (fun x hx => (hA.2.2.1.2 x hx).2.2.2.1) ht0
  have hek := hI.1 k hk
  unfold fX11_mayBegin
  rw [if_pos (ix_nI hk7 (by decide)), ldA_nI _ 45 k (by omega), f45 k hk]
  simp only [lt_def]
  by_cases c1 : s.1 k < t
  · rw [if_pos c1, if_neg (nI_ne_m1 (by omega)), if_neg]
    intro q
    have r := hr.mp q
    have := hI.2.1 k hk r.1 r.2.1
    omega
  · rw [if_neg c1, if_pos rfl]
    have a1' : (∃ q, 0 ≤ q ∧ q < cS a 4 ∧ p q = k + 1) → fX11_mayBegin_L14 (fun (x1_8 : Int32) (x2_9 : Int32) (σ_10 : ST) => (fX11_mayBegin_L42 (fun (x1_19 : Int32) (σ_20 : ST) => (fX11_mayBegin_L90 n x1_19 0 σ_20)) n x1_8 x2_9 0 σ_10)) n (nI k) (nI t) 0 τ = some (0, τ) := a1
    have a2' : (¬ ∃ q, 0 ≤ q ∧ q < cS a 4 ∧ p q = k + 1) → fX11_mayBegin_L14 (fun (x1_8 : Int32) (x2_9 : Int32) (σ_10 : ST) => (fX11_mayBegin_L42 (fun (x1_19 : Int32) (σ_20 : ST) => (fX11_mayBegin_L90 n x1_19 0 σ_20)) n x1_8 x2_9 0 σ_10)) n (nI k) (nI t) 0 τ = fX11_mayBegin_L42 (fun (x1_19 : Int32) (σ_20 : ST) => (fX11_mayBegin_L90 n x1_19 0 σ_20)) n (nI k) (nI t) (nI 0) τ := a2
    by_cases c2 : ∃ q, 0 ≤ q ∧ q < cS a 4 ∧ p q = k + 1
    · rw [a1' c2, if_neg]
      intro q
      have r := hr.mp q
      obtain ⟨h, -, h2, h3⟩ := c2
      have z := (fp h h2 (by omega)).2.2.1
      rw [h3, Nat.add_sub_cancel] at z
      rcases z with z | z
      · rw [r.1] at z; cases z
      · rw [r.2.1] at z; cases z
    · rw [a2' c2]
      have hns : ¬ strt a s k := fun z => by
        obtain ⟨h, h1, h2⟩ := fj k hk z (by omega)
        exact c2 ⟨h, Nat.zero_le _, h1, h2⟩
      have hw : waitB a k = true := by
        cases z : waitB a k
        · exact absurd (Or.inl z) hns
        · rfl
      have hb : s.2.2.testBit k = false := by
        cases z : s.2.2.testBit k
        · rfl
        · exact absurd (Or.inr z) hns
      by_cases c3 : opA a k ≤ t
      · have hq := hop.mpr c3
        rw [t1 (fun q _ h6 hbit => hq q h6 hbit)]
        show fX11_mayBegin_L90 n (nI k) (nI 0) τ = _
        by_cases c4 : ∀ j, (cN a 4 k).testBit j = true → s.1 j < t
        · rw [p1 (fun q _ _ hbit => c4 q hbit), if_pos (hr.mpr ⟨hw, hb, c3, c4⟩)]
        · rw [p2, if_neg (fun q => c4 (hr.mp q).2.2.2)]
          rw [Classical.not_forall] at c4
          obtain ⟨j, hj⟩ := c4
          rw [Classical.not_imp] at hj
          exact ⟨j, Nat.zero_le _, pt_lt hs hk hj.1, hj.1, hj.2⟩
      · rw [t2, if_neg (fun q => c3 (hr.mp q).2.2.1)]
        have hq : ¬ ∀ x, x < 6 → (cN a 3 k).testBit x = true → lnd a (cN a 10) x ≤ t := fun z => c3 (hop.mp z)
        rw [Classical.not_forall] at hq
        obtain ⟨x, hx⟩ := hq
        rw [Classical.not_imp, Classical.not_imp] at hx
        exact ⟨x, Nat.zero_le _, hx.1, hx.2.1, by omega⟩
/-- a host begins -/
def mRow (r : List Nat) (τ : ST) : Prop := ∀ i, i < r.length → gA τ 44 i = nI (r.getD i 0)
theorem MF_put {a : AS} {t h k : Nat} {s : RS} {p W : Nat → Nat} {τ τ' : ST} (hB : wfBg 0 0 a) (hh : h < cS a 4) (hk : k < cS a 1) (ht : t ≤ 399) (hI : RI a t s) (hr : rdyB a t s k = true) (hf : s.2.1 h ≤ t) (hF : MF a t s p W τ) (e45 : gA τ' 45 = gA τ 45) (e46 : gA τ' 46 = upd (gA τ 46) h (nI k)) (e47 : gA τ' 47 = upd (gA τ 47) k 0) : MF a t (putS a t h k s) (uN p h (k + 1)) (uN W k 0) τ' := by
  have hs := hs_of hB
  have hH := hB.2.1.2.2.1
  obtain ⟨f45, f46, f0, fz, fp, fd, fj⟩ := hF
  have r := (rdyB_iff (pt128 hs hk)).mp hr
  have h400 := hI.2.1 k hk r.1 r.2.1
  have hge := min_ge (a := a) (t := t) hs hk (by omega)
  have hnot : ∀ q, q < cS a 4 → p q ≠ k + 1 := fun q hq e => by
    have z := (fp q hq (by omega)).2.2.1
    rw [e, Nat.add_sub_cancel] at z
    rcases z with z | z
    · rw [r.1] at z; cases z
    · rw [r.2.1] at z; cases z
  have hnot3 : ∀ q, q < 3 → p q ≠ k + 1 := fun q hq e => by
    rcases Nat.lt_or_ge q (cS a 4) with z | z
    · exact hnot q z e
    · rw [f0 q hq z] at e; omega
  refine ⟨fun j hj => ?_, fun q hq => ?_, fun q hq hz => ?_, fun q hq => ?_, fun q hq hz => ?_, fun q q' hq hq' hz he => ?_, fun j hj hst hte => ?_⟩
  · show gA τ' 45 j = if uN s.1 k (min 400 (t + cN a 0 k - 1)) j < t then nI (uN s.1 k (min 400 (t + cN a 0 k - 1)) j) else -1
    rw [e45, f45 j hj, uN_at]
    by_cases c : j = k
    · subst c
      rw [if_pos rfl, if_neg (by omega), if_neg (by omega)]
    · rw [if_neg c]
  · rw [e46, upd_at, uN_at]
    by_cases c : q = h
    · rw [if_pos c, if_pos c]; unfold enc; rw [if_neg (by omega), Nat.add_sub_cancel]
    · rw [if_neg c, if_neg c]; exact f46 q hq
  · rw [uN_at, if_neg (by omega)]; exact f0 q hq hz
  · show uN p h (k + 1) q = 0 ↔ uN s.2.1 h (min 400 (t + cN a 0 k - 1) + 1) q ≤ t
    rw [uN_at, uN_at]
    by_cases c : q = h
    · rw [if_pos c, if_pos c]; omega
    · rw [if_neg c, if_neg c]; exact fz q hq
  · rw [uN_at p] at hz ⊢
    by_cases c : q = h
    · rw [if_pos c, Nat.add_sub_cancel]
      refine ⟨by omega, ?_, ?_, ?_, ?_, ?_⟩
      · show uN s.2.1 h (min 400 (t + cN a 0 k - 1) + 1) q = uN s.1 k (min 400 (t + cN a 0 k - 1)) k + 1
        rw [uN_at, uN_at, if_pos c, if_pos rfl]
      · right
        show (s.2.2 ||| 2 ^ k).testBit k = true
        rw [testBit_set]; simp
      · rw [e47, upd_at, uN_at, if_pos rfl, if_pos rfl]; rfl
      · rw [uN_at, if_pos rfl]; have := (hs.2.2.2.1 k hk).1; omega
      · show uN s.1 k (min 400 (t + cN a 0 k - 1)) k = min 400 (t + cN a 0 k - uN W k 0 k - 1)
        rw [uN_at, uN_at, if_pos rfl, if_pos rfl, Nat.sub_zero]
    · rw [if_neg c] at hz ⊢
      obtain ⟨g1, g2, g3, g4, g5, g6⟩ := fp q hq hz
      have hne : p q - 1 ≠ k := fun z => hnot q hq (by omega)
      refine ⟨g1, ?_, ?_, ?_, ?_, ?_⟩
      · show uN s.2.1 h (min 400 (t + cN a 0 k - 1) + 1) q = uN s.1 k (min 400 (t + cN a 0 k - 1)) (p q - 1) + 1
        rw [uN_at, uN_at, if_neg c, if_neg hne]; exact g2
      · rcases g3 with z | z
        · exact Or.inl z
        · right
          show (s.2.2 ||| 2 ^ k).testBit (p q - 1) = true
          rw [testBit_set, z]; rfl
      · rw [e47, upd_at, uN_at, if_neg hne, if_neg hne]; exact g4
      · rw [uN_at, if_neg hne]; exact g5
      · show uN s.1 k (min 400 (t + cN a 0 k - 1)) (p q - 1) = min 400 (t + cN a 0 (p q - 1) - uN W k 0 (p q - 1) - 1)
        rw [uN_at, uN_at, if_neg hne, if_neg hne]; exact g6
  · rw [uN_at] at hz
    rw [uN_at, uN_at] at he
    by_cases c : q = h
    · by_cases c' : q' = h
      · omega
      · rw [if_pos c, if_neg c'] at he
        exact absurd he.symm (hnot3 q' hq')
    · by_cases c' : q' = h
      · rw [if_neg c, if_pos c'] at he
        exact absurd he (hnot3 q hq)
      · rw [if_neg c] at hz
        rw [if_neg c, if_neg c'] at he
        exact fd q q' hq hq' hz he
  · have hte' : t ≤ uN s.1 k (min 400 (t + cN a 0 k - 1)) j := hte
    by_cases c : j = k
    · subst c
      exact ⟨h, hh, by rw [uN_at, if_pos rfl]⟩
    · rw [uN_at, if_neg c] at hte'
      have hst' : strt a s j := by
        rcases hst with z | z
        · exact Or.inl z
        · have z' : (s.2.2 ||| 2 ^ k).testBit j = true := z
          rw [testBit_set, Bool.or_eq_true] at z'
          rcases z' with y | y
          · exact Or.inr y
          · exact absurd (of_decide_eq_true y).symm c
      obtain ⟨q, q1, q2⟩ := fj j hj hst' hte'
      refine ⟨q, q1, ?_⟩
      rw [uN_at, if_neg (fun z => by rw [z] at q2; have := (fz h hh).mpr hf; omega)]
      exact q2
