/-! ===== PURE: read: rows that are filled anew ===== -/
theorem fil53 {kk : ST → Option ST} : ∀ d i n σ, i + d = 3 → d < n → (∀ j, j < i → gA σ 53 j = (-1 : Int32)) → ∃ σ', fX9_startAnew_L12 kk n (nI i) σ = kk σ' ∧ fr [] [53] [] σ σ' ∧ ∀ j, j < 3 → gA σ' 53 j = (-1 : Int32) := by
  intro d
  induction d with
  | zero =>
    intro i n σ hd hn h
    obtain ⟨n, rfl⟩ : ∃ m, n = m + 1 := ⟨n - 1, by omega⟩
    rw [fX9_startAnew_L12, if_pos (show (3 : Int32) ≤ nI i from nI_le (a := 3) (by omega) (by omega))]
    exact ⟨σ, rfl, fr_rf, fun j hj => h j (by omega)⟩
  | succ d ih =>
    intro i n σ hd hn h
    obtain ⟨n, rfl⟩ : ∃ m, n = m + 1 := ⟨n - 1, by omega⟩
    rw [fX9_startAnew_L12, if_neg (show ¬ (3 : Int32) ≤ nI i from nI_ge (b := 3) (by omega) (by decide)), if_pos (ix_nI (show i < 3 by omega) (by decide)), lt_def, lt_def, nI_1, stA_nI _ 53 _ _ (by omega)]
    obtain ⟨σ', a, b, c⟩ := ih (i + 1) n (sA σ 53 (upd (gA σ 53) i (-1 : Int32))) (by omega) (by omega) (fun j hj => by
      rw [gA_sA, if_pos rfl, upd_at]
      by_cases q : j = i
      · rw [if_pos q]
      · rw [if_neg q]; exact h j (by omega))
    exact ⟨σ', a, fr_tr (fr_sA fr_rf (by decide)) b, c⟩
theorem fil49 {kk : ST → Option ST} : ∀ d i n σ, i + d = 7 → d < n → (∀ j, j < i → gA σ 49 j = (0 : Int32)) → ∃ σ', fX3_startAnew_L7 kk n (nI i) σ = kk σ' ∧ fr [] [49] [] σ σ' ∧ ∀ j, j < 7 → gA σ' 49 j = (0 : Int32) := by
  intro d
  induction d with
  | zero =>
    intro i n σ hd hn h
    obtain ⟨n, rfl⟩ : ∃ m, n = m + 1 := ⟨n - 1, by omega⟩
    rw [fX3_startAnew_L7, if_pos (show (7 : Int32) ≤ nI i from nI_le (a := 7) (by omega) (by omega))]
    exact ⟨σ, rfl, fr_rf, fun j hj => h j (by omega)⟩
  | succ d ih =>
    intro i n σ hd hn h
    obtain ⟨n, rfl⟩ : ∃ m, n = m + 1 := ⟨n - 1, by omega⟩
    rw [fX3_startAnew_L7, if_neg (show ¬ (7 : Int32) ≤ nI i from nI_ge (b := 7) (by omega) (by decide)), if_pos (ix_nI (show i < 7 by omega) (by decide)), lt_def, lt_def, nI_1, stA_nI _ 49 _ _ (by omega)]
    obtain ⟨σ', a, b, c⟩ := ih (i + 1) n (sA σ 49 (upd (gA σ 49) i (0 : Int32))) (by omega) (by omega) (fun j hj => by
      rw [gA_sA, if_pos rfl, upd_at]
      by_cases q : j = i
      · rw [if_pos q]
      · rw [if_neg q]; exact h j (by omega))
    exact ⟨σ', a, fr_tr (fr_sA fr_rf (by decide)) b, c⟩
theorem fil50 {kk : ST → Option ST} : ∀ d i n σ, i + d = 42 → d < n → (∀ j, j < i → gA σ 50 j = (0 : Int32)) → ∃ σ', fX3_startAnew_L28 kk n (nI i) σ = kk σ' ∧ fr [] [50] [] σ σ' ∧ ∀ j, j < 42 → gA σ' 50 j = (0 : Int32) := by
  intro d
  induction d with
  | zero =>
    intro i n σ hd hn h
    obtain ⟨n, rfl⟩ : ∃ m, n = m + 1 := ⟨n - 1, by omega⟩
    rw [fX3_startAnew_L28, if_pos (show (42 : Int32) ≤ nI i from nI_le (a := 42) (by omega) (by omega))]
    exact ⟨σ, rfl, fr_rf, fun j hj => h j (by omega)⟩
  | succ d ih =>
    intro i n σ hd hn h
    obtain ⟨n, rfl⟩ : ∃ m, n = m + 1 := ⟨n - 1, by omega⟩
    rw [fX3_startAnew_L28, if_neg (show ¬ (42 : Int32) ≤ nI i from nI_ge (b := 42) (by omega) (by decide)), if_pos (ix_nI (show i < 42 by omega) (by decide)), lt_def, lt_def, nI_1, stA_nI _ 50 _ _ (by omega)]
    obtain ⟨σ', a, b, c⟩ := ih (i + 1) n (sA σ 50 (upd (gA σ 50) i (0 : Int32))) (by omega) (by omega) (fun j hj => by
      rw [gA_sA, if_pos rfl, upd_at]
      by_cases q : j = i
      · rw [if_pos q]
      · rw [if_neg q]; exact h j (by omega))
    exact ⟨σ', a, fr_tr (fr_sA fr_rf (by decide)) b, c⟩
theorem fil33 {kk : ST → Option (Int32 × ST)} : ∀ d i n σ, i + d = 3 → d < n → (∀ j, j < i → gA σ 33 j = (-1 : Int32)) → ∃ σ', fX11_read_L186 kk n (nI i) σ = kk σ' ∧ fr [] [33] [] σ σ' ∧ ∀ j, j < 3 → gA σ' 33 j = (-1 : Int32) := by
  intro d
  induction d with
  | zero =>
    intro i n σ hd hn h
    obtain ⟨n, rfl⟩ : ∃ m, n = m + 1 := ⟨n - 1, by omega⟩
    rw [fX11_read_L186, if_pos (show (3 : Int32) ≤ nI i from nI_le (a := 3) (by omega) (by omega))]
    exact ⟨σ, rfl, fr_rf, fun j hj => h j (by omega)⟩
  | succ d ih =>
    intro i n σ hd hn h
    obtain ⟨n, rfl⟩ : ∃ m, n = m + 1 := ⟨n - 1, by omega⟩
    rw [fX11_read_L186, if_neg (show ¬ (3 : Int32) ≤ nI i from nI_ge (b := 3) (by omega) (by decide)), if_pos (ix_nI (show i < 3 by omega) (by decide)), lt_def, lt_def, nI_1, stA_nI _ 33 _ _ (by omega)]
    obtain ⟨σ', a, b, c⟩ := ih (i + 1) n (sA σ 33 (upd (gA σ 33) i (-1 : Int32))) (by omega) (by omega) (fun j hj => by
      rw [gA_sA, if_pos rfl, upd_at]
      by_cases q : j = i
      · rw [if_pos q]
      · rw [if_neg q]; exact h j (by omega))
    exact ⟨σ', a, fr_tr (fr_sA fr_rf (by decide)) b, c⟩
theorem fil51 : ∀ d i n σ, i + d = 336 → d < n → (∀ j, j < i → gB σ 51 j = (0 : Int64)) → ∃ σ', fX3_startAnew_L49 n (nI i) σ = some σ' ∧ fr [] [] [51] σ σ' ∧ ∀ j, j < 336 → gB σ' 51 j = (0 : Int64) := by
  intro d
  induction d with
  | zero =>
    intro i n σ hd hn h
    obtain ⟨n, rfl⟩ : ∃ m, n = m + 1 := ⟨n - 1, by omega⟩
    rw [fX3_startAnew_L49, if_pos (show (336 : Int32) ≤ nI i from nI_le (a := 336) (by omega) (by omega))]
    exact ⟨σ, rfl, fr_rf, fun j hj => h j (by omega)⟩
  | succ d ih =>
    intro i n σ hd hn h
    obtain ⟨n, rfl⟩ : ∃ m, n = m + 1 := ⟨n - 1, by omega⟩
    rw [fX3_startAnew_L49, if_neg (show ¬ (336 : Int32) ≤ nI i from nI_ge (b := 336) (by omega) (by decide)), if_pos (ix_nI (show i < 336 by omega) (by decide)), lt_def, lt_def, nI_1, stB_nI _ 51 _ _ (by omega)]
    obtain ⟨σ', a, b, c⟩ := ih (i + 1) n (sB σ 51 (vp_updL (gB σ 51) i 0)) (by omega) (by omega) (fun j hj => by
      rw [gB_sB, if_pos rfl, updL_at]
      by_cases q : j = i
      · rw [if_pos q]
      · rw [if_neg q]; exact h j (by omega))
    exact ⟨σ', a, fr_tr (fr_sB fr_rf (by decide)) b, c⟩
theorem fil54 : ∀ d i n σ, i + d = 7 → d < n → (∀ j, j < i → gA σ 54 j = nI j ∧ gA σ 56 j = 0) → ∃ σ', fX9_startAnew_L32 n (nI i) σ = some σ' ∧ fr [] [54, 56] [] σ σ' ∧ ∀ j, j < 7 → gA σ' 54 j = nI j ∧ gA σ' 56 j = 0 := by
  intro d
  induction d with
  | zero =>
    intro i n σ hd hn h
    obtain ⟨n, rfl⟩ : ∃ m, n = m + 1 := ⟨n - 1, by omega⟩
    rw [fX9_startAnew_L32, if_pos (show (7 : Int32) ≤ nI i from nI_le (a := 7) (by omega) (by omega))]
    exact ⟨σ, rfl, fr_rf, fun j hj => h j (by omega)⟩
  | succ d ih =>
    intro i n σ hd hn h
    obtain ⟨n, rfl⟩ : ∃ m, n = m + 1 := ⟨n - 1, by omega⟩
    have i7 : ix (nI i) 7 := ix_nI (show i < 7 by omega) (by decide)
    rw [fX9_startAnew_L32, if_neg (show ¬ (7 : Int32) ≤ nI i from nI_ge (b := 7) (by omega) (by decide)), if_pos i7, lt_def, if_pos i7, lt_def, lt_def, nI_1, stA_nI _ 54 _ _ (by omega), stA_nI _ 56 _ _ (by omega)]
    obtain ⟨σ', a, b, c⟩ := ih (i + 1) n (sA (sA σ 54 (upd (gA σ 54) i (nI i))) 56 (upd (gA (sA σ 54 (upd (gA σ 54) i (nI i))) 56) i 0)) (by omega) (by omega) (fun j hj => by
      show upd (gA σ 54) i (nI i) j = _ ∧ upd (gA σ 56) i 0 j = _
      rw [upd_at, upd_at]
      by_cases q : j = i
      · rw [if_pos q, if_pos q, q]; exact ⟨rfl, rfl⟩
      · rw [if_neg q, if_neg q]; exact h j (by omega))
    exact ⟨σ', a, fr_tr (fr_sA (fr_sA fr_rf (by decide)) (by decide)) b, c⟩
/-- the class's work and post start anew -/
theorem xAnewW {n : Nat} {σ : ST} (hn : 500 < n) : ∃ σ', fX9_startAnew n σ = some σ' ∧ fr [20, 21] [53, 54, 56] [] σ σ' ∧ gI σ' 20 = 0 ∧ gI σ' 21 = 0 ∧ (∀ j, j < 3 → gA σ' 53 j = (-1 : Int32)) ∧ ∀ j, j < 7 → gA σ' 54 j = nI j ∧ gA σ' 56 j = 0 := by
  unfold fX9_startAnew
  rw [lt_def, lt_def, lt_def]
  obtain ⟨σ1, a1, a2, a3⟩ := fil53 (kk := fun (σ_8 : ST) => (lt ((0 : Int32)) (fun x1_9 => (fX9_startAnew_L32 n x1_9 σ_8)))) 3 0 n (sI (sI σ 20 0) 21 0) rfl (by omega) (fun j hj => absurd hj (Nat.not_lt_zero j))
  have a1' : fX9_startAnew_L12 (fun (σ_8 : ST) => (lt ((0 : Int32)) (fun x1_9 => (fX9_startAnew_L32 n x1_9 σ_8)))) n 0 (sI (sI σ 20 0) 21 0) = fX9_startAnew_L32 n 0 σ1 := a1
  obtain ⟨σ2, b1, b2, b3⟩ := fil54 7 0 n σ1 rfl (by omega) (fun j hj => absurd hj (Nat.not_lt_zero j))
  have b1' : fX9_startAnew_L32 n 0 σ1 = some σ2 := b1
  have f0 : fr [20, 21] [53, 54, 56] [] σ (sI (sI σ 20 0) 21 0) := fr_sI (fr_sI fr_rf (by decide)) (by decide)
  refine ⟨σ2, a1'.trans b1', fr_tr f0 (fr_tr (fr_up a2 (by decide) (by decide) (by decide)) (fr_up b2 (by decide) (by decide) (by decide))), ?_, ?_, fun j hj => ?_, b3⟩
  · rw [b2.1 20 (by decide), a2.1 20 (by decide)]; rfl
  · rw [b2.1 21 (by decide), a2.1 21 (by decide)]; rfl
  · rw [b2.2.1 53 (by decide)]; exact a3 j hj
theorem xAnewP {n : Nat} {σ : ST} (hn : 500 < n) : ∃ σ', fX3_startAnew n σ = some σ' ∧ fr [17] [49, 50] [51] σ σ' ∧ gI σ' 17 = 0 ∧ (∀ j, j < 7 → gA σ' 49 j = (0 : Int32)) ∧ (∀ j, j < 42 → gA σ' 50 j = (0 : Int32)) ∧ ∀ j, j < 336 → gB σ' 51 j = (0 : Int64) := by
  unfold fX3_startAnew
  rw [lt_def, lt_def]
  obtain ⟨σ1, a1, a2, a3⟩ := fil49 (kk := fun (σ_7 : ST) => (lt ((0 : Int32)) (fun x1_8 => (fX3_startAnew_L28 (fun (σ_13 : ST) => (lt ((0 : Int32)) (fun x1_14 => (fX3_startAnew_L49 n x1_14 σ_13)))) n x1_8 σ_7)))) 7 0 n (sI σ 17 0) rfl (by omega) (fun j hj => absurd hj (Nat.not_lt_zero j))
  obtain ⟨σ2, b1, b2, b3⟩ := fil50 (kk := fun (σ_13 : ST) => (lt ((0 : Int32)) (fun x1_14 => (fX3_startAnew_L49 n x1_14 σ_13)))) 42 0 n σ1 rfl (by omega) (fun j hj => absurd hj (Nat.not_lt_zero j))
  obtain ⟨σ3, c1, c2, c3⟩ := fil51 336 0 n σ2 rfl (by omega) (fun j hj => absurd hj (Nat.not_lt_zero j))
  have f0 : fr [17] [49, 50] [51] σ (sI σ 17 0) := fr_sI fr_rf (by decide)
  refine ⟨σ3, (show _ = _ from a1).trans ((show _ = _ from b1).trans (show _ = _ from c1)), fr_tr f0 (fr_tr (fr_up a2 (by decide) (by decide) (by decide)) (fr_tr (fr_up b2 (by decide) (by decide) (by decide)) (fr_up c2 (by decide) (by decide) (by decide)))), ?_, fun j hj => ?_, fun j hj => ?_, c3⟩
  · rw [c2.1 17 (by decide), b2.1 17 (by decide), a2.1 17 (by decide)]; rfl
  · rw [c2.2.1 49 (by decide), b2.2.1 49 (by decide)]; exact a3 j hj
  · rw [c2.2.1 50 (by decide)]; exact b3 j hj
/-- the reference's rows -/
theorem mCpy {kk : ST → Option (Int32 × ST)} {ln : Nat} (hl : ln ≤ 2000) : ∀ d i n τ, i + d = ln → d < n → gI τ 2 = nI ln → (∀ j, j < i → gA τ 2 j = nb (gA τ 1 j)) → ∃ τ', fX11_read_L10 kk n (nI i) τ = kk τ' ∧ fr [] [2] [] τ τ' ∧ ∀ j, j < ln → gA τ' 2 j = nb (gA τ 1 j) := by
  intro d
  induction d with
  | zero =>
    intro i n τ hd hn h2 h
    obtain ⟨n, rfl⟩ : ∃ m, n = m + 1 := ⟨n - 1, by omega⟩
    rw [fX11_read_L10, h2, if_pos (nI_le (by omega) (by omega))]
    exact ⟨τ, rfl, fr_rf, fun j hj => h j (by omega)⟩
  | succ d ih =>
    intro i n τ hd hn h2 h
    obtain ⟨n, rfl⟩ : ∃ m, n = m + 1 := ⟨n - 1, by omega⟩
    have i2 : ix (nI i) 2000 := ix_nI (show i < 2000 by omega) (by decide)
    rw [fX11_read_L10, h2, if_neg (nI_ge (by omega) (by omega)), if_pos i2, if_pos i2, lt_def, lt_def, nI_1, stA_nI _ 2 _ _ (by omega), ldA_nI _ 1 _ (by omega)]
    obtain ⟨τ', a, b, c⟩ := ih (i + 1) n (sA τ 2 (upd (gA τ 2) i (nb (gA τ 1 i)))) (by omega) (by omega) h2 (fun j hj => by
      show upd (gA τ 2) i (nb (gA τ 1 i)) j = nb (gA τ 1 j)
      rw [upd_at]
      by_cases q : j = i
      · rw [if_pos q, q]
      · rw [if_neg q]; exact h j (by omega))
    exact ⟨τ', a, fr_tr (fr_sA fr_rf (by decide)) b, c⟩
theorem fil42 {kk : Int32 → Int32 → ST → Option (Int32 × ST)} {s r : Nat} (hs : s < 7) (hr : r < 6) : ∀ d g n τ, g + d = 8 → d < n → (∀ j, j < 8 * (6 * s + r) + g → gB τ 42 j = (0 : Int64)) → ∃ τ', fX11_read_L286 kk n (nI s) (nI r) (nI g) τ = kk (nI s) (nI r) τ' ∧ fr [] [] [42] τ τ' ∧ ∀ j, j < 8 * (6 * s + r) + 8 → gB τ' 42 j = (0 : Int64) := by
  intro d
  induction d with
  | zero =>
    intro g n τ hd hn h
    obtain ⟨n, rfl⟩ : ∃ m, n = m + 1 := ⟨n - 1, by omega⟩
    rw [fX11_read_L286, if_pos (show (8 : Int32) ≤ nI g from nI_le (a := 8) (by omega) (by omega))]
    exact ⟨τ, rfl, fr_rf, fun j hj => h j (by omega)⟩
  | succ d ih =>
    intro g n τ hd hn h
    obtain ⟨n, rfl⟩ : ∃ m, n = m + 1 := ⟨n - 1, by omega⟩
    rw [fX11_read_L286, if_neg (show ¬ (8 : Int32) ≤ nI g from nI_ge (b := 8) (by omega) (by decide)), m6, m8, if_pos (ix_nI (show 8 * (6 * s + r) + g < 336 by omega) (by decide)), lt_def, lt_def, nI_1, stB_nI _ 42 _ _ (by omega)]
    obtain ⟨τ', a, b, c⟩ := ih (g + 1) n (sB τ 42 (vp_updL (gB τ 42) (8 * (6 * s + r) + g) 0)) (by omega) (by omega) (fun j hj => by
      rw [gB_sB, if_pos rfl, updL_at]
      by_cases q : j = 8 * (6 * s + r) + g
      · rw [if_pos q]
      · rw [if_neg q]; exact h j (by omega))
    exact ⟨τ', a, fr_tr (fr_sB fr_rf (by decide)) b, c⟩
theorem nz0 : nz ((0 : Int32)) = 0 := by decide
theorem fil39 {kk : Int32 → ST → Option (Int32 × ST)} {s : Nat} (hs : s < 7) : ∀ d r n τ, r + d = 6 → d + 20 < n → (∀ j, j < 6 * s + r → gA τ 39 j = 0 ∧ gA τ 40 j = 0 ∧ gA τ 41 j = 0) → (∀ j, j < 8 * (6 * s + r) → gB τ 42 j = (0 : Int64)) → ∃ τ', fX11_read_L242 kk n (nI s) (nI r) τ = kk (nI s) τ' ∧ fr [] [39, 40, 41] [42] τ τ' ∧ (∀ j, j < 6 * s + 6 → gA τ' 39 j = 0 ∧ gA τ' 40 j = 0 ∧ gA τ' 41 j = 0) ∧ ∀ j, j < 8 * (6 * s + 6) → gB τ' 42 j = (0 : Int64) := by
  intro d
  induction d with
  | zero =>
    intro r n τ hd hn h1 h2
    obtain ⟨n, rfl⟩ : ∃ m, n = m + 1 := ⟨n - 1, by omega⟩
    rw [fX11_read_L242, if_pos (show (6 : Int32) ≤ nI r from nI_le (a := 6) (by omega) (by omega))]
    exact ⟨τ, rfl, fr_rf, fun j hj => h1 j (by omega), fun j hj => h2 j (by omega)⟩
  | succ d ih =>
    intro r n τ hd hn h1 h2
    obtain ⟨n, rfl⟩ : ∃ m, n = m + 1 := ⟨n - 1, by omega⟩
    have i42 : ix (nI (6 * s + r)) 42 := ix_nI (show 6 * s + r < 42 by omega) (by decide)
    have b31 : 6 * s + r < 2 ^ 31 := by omega
    rw [fX11_read_L242, if_neg (show ¬ (6 : Int32) ≤ nI r from nI_ge (b := 6) (by omega) (by decide)), m6, nz0]
    simp only [if_pos i42, lt_def, stA_nI _ _ (6 * s + r) _ b31]
    generalize hs4 : sA (sA (sA τ 39 (upd (gA τ 39) (6 * s + r) 0)) 40 (upd (gA (sA τ 39 (upd (gA τ 39) (6 * s + r) 0)) 40) (6 * s + r) 0)) 41 (upd (gA (sA (sA τ 39 (upd (gA τ 39) (6 * s + r) 0)) 40 (upd (gA (sA τ 39 (upd (gA τ 39) (6 * s + r) 0)) 40) (6 * s + r) 0)) 41) (6 * s + r) 0) = τ1
    have f1 : fr [] [39, 40, 41] [42] τ τ1 := by rw [← hs4]; exact fr_sA (fr_sA (fr_sA fr_rf (by decide)) (by decide)) (by decide)
    have g39 : gA τ1 39 = upd (gA τ 39) (6 * s + r) 0 := by rw [← hs4]; rfl
    have g40 : gA τ1 40 = upd (gA τ 40) (6 * s + r) 0 := by rw [← hs4]; rfl
    have g41 : gA τ1 41 = upd (gA τ 41) (6 * s + r) 0 := by rw [← hs4]; rfl
    have gb : gB τ1 42 = gB τ 42 := by rw [← hs4]; rfl
    obtain ⟨τ2, a1, a2, a3⟩ := fil42 (kk := fun (x1_59 : Int32) (x2_60 : Int32) (σ_61 : ST) => (fX11_read_L242 kk n x1_59 (x2_60 + 1) σ_61)) hs (show r < 6 by omega) 8 0 n τ1 rfl (by omega) (fun j hj => by rw [gb]; exact h2 j (by omega))
    have a1' : fX11_read_L286 (fun (x1_59 : Int32) (x2_60 : Int32) (σ_61 : ST) => (fX11_read_L242 kk n x1_59 (x2_60 + 1) σ_61)) n (nI s) (nI r) 0 τ1 = fX11_read_L242 kk n (nI s) (nI r + 1) τ2 := a1
    rw [a1', nI_1]
    obtain ⟨τ', b1, b2, b3, b4⟩ := ih (r + 1) n τ2 (by omega) (by omega) (fun j hj => by
      rw [a2.2.1 39 (by decide), a2.2.1 40 (by decide), a2.2.1 41 (by decide), g39, g40, g41, upd_at, upd_at, upd_at]
      by_cases q : j = 6 * s + r
      · rw [if_pos q, if_pos q, if_pos q]; exact ⟨rfl, rfl, rfl⟩
      · rw [if_neg q, if_neg q, if_neg q]; exact h1 j (by omega)) (fun j hj => a3 j (by omega))
    exact ⟨τ', b1, fr_tr f1 (fr_tr (fr_up a2 (by decide) (by decide) (by decide)) b2), b3, b4⟩
theorem fil35 : ∀ d s n τ, s + d = 7 → d + 40 < n → (∀ j, j < s → gA τ 35 j = (-1 : Int32) ∧ gA τ 36 j = 0 ∧ gA τ 34 j = nI j) → (∀ j, j < 6 * s → gA τ 39 j = 0 ∧ gA τ 40 j = 0 ∧ gA τ 41 j = 0) → (∀ j, j < 8 * (6 * s) → gB τ 42 j = (0 : Int64)) → ∃ τ', fX11_read_L206 n (nI s) τ = some (0, τ') ∧ fr [] [34, 35, 36, 37, 39, 40, 41] [42] τ τ' ∧ (∀ j, j < 7 → gA τ' 35 j = (-1 : Int32) ∧ gA τ' 36 j = 0 ∧ gA τ' 34 j = nI j) ∧ (∀ j, j < 42 → gA τ' 39 j = 0 ∧ gA τ' 40 j = 0 ∧ gA τ' 41 j = 0) ∧ ∀ j, j < 336 → gB τ' 42 j = (0 : Int64) := by
  intro d
  induction d with
  | zero =>
    intro s n τ hd hn h0 h1 h2
    obtain ⟨n, rfl⟩ : ∃ m, n = m + 1 := ⟨n - 1, by omega⟩
    rw [fX11_read_L206, if_pos (show (7 : Int32) ≤ nI s from nI_le (a := 7) (by omega) (by omega))]
    exact ⟨τ, rfl, fr_rf, fun j hj => h0 j (by omega), fun j hj => h1 j (by omega), fun j hj => h2 j (by omega)⟩
  | succ d ih =>
    intro s n τ hd hn h0 h1 h2
    obtain ⟨n, rfl⟩ : ∃ m, n = m + 1 := ⟨n - 1, by omega⟩
    have i7 : ix (nI s) 7 := ix_nI (show s < 7 by omega) (by decide)
    have b31 : s < 2 ^ 31 := by omega
    rw [fX11_read_L206, if_neg (show ¬ (7 : Int32) ≤ nI s from nI_ge (b := 7) (by omega) (by decide)), if_pos i7, lt_def, if_pos i7, lt_def, if_pos i7, lt_def, if_pos i7, lt_def, lt_def, stA_nI _ 35 _ _ b31, stA_nI _ 36 _ _ b31, stA_nI _ 37 _ _ b31, stA_nI _ 34 _ _ b31]
    generalize hs4 : sA (sA (sA (sA τ 35 (upd (gA τ 35) s (-1))) 36 (upd (gA (sA τ 35 (upd (gA τ 35) s (-1))) 36) s 0)) 37 (upd (gA (sA (sA τ 35 (upd (gA τ 35) s (-1))) 36 (upd (gA (sA τ 35 (upd (gA τ 35) s (-1))) 36) s 0)) 37) s 0)) 34 (upd (gA (sA (sA (sA τ 35 (upd (gA τ 35) s (-1))) 36 (upd (gA (sA τ 35 (upd (gA τ 35) s (-1))) 36) s 0)) 37 (upd (gA (sA (sA τ 35 (upd (gA τ 35) s (-1))) 36 (upd (gA (sA τ 35 (upd (gA τ 35) s (-1))) 36) s 0)) 37) s 0)) 34) s (nI s)) = τ1
    have f1 : fr [] [34, 35, 36, 37, 39, 40, 41] [42] τ τ1 := by rw [← hs4]; exact fr_sA (fr_sA (fr_sA (fr_sA fr_rf (by decide)) (by decide)) (by decide)) (by decide)
    have g35 : gA τ1 35 = upd (gA τ 35) s (-1) := by rw [← hs4]; rfl
    have g36 : gA τ1 36 = upd (gA τ 36) s 0 := by rw [← hs4]; rfl
    have g34 : gA τ1 34 = upd (gA τ 34) s (nI s) := by rw [← hs4]; rfl
    have g39 : gA τ1 39 = gA τ 39 := by rw [← hs4]; rfl
    have g40 : gA τ1 40 = gA τ 40 := by rw [← hs4]; rfl
    have g41 : gA τ1 41 = gA τ 41 := by rw [← hs4]; rfl
    have gb : gB τ1 42 = gB τ 42 := by rw [← hs4]; rfl
    obtain ⟨τ2, a1, a2, a3, a4⟩ := fil39 (kk := fun (x1_63 : Int32) (σ_64 : ST) => (lt (x1_63 + 1) (fun x1_65 => (fX11_read_L206 n x1_65 σ_64)))) (show s < 7 by omega) 6 0 n τ1 rfl (by omega) (fun j hj => by rw [g39, g40, g41]; exact h1 j (by omega)) (fun j hj => by rw [gb]; exact h2 j (by omega))
    have a1' : fX11_read_L242 (fun (x1_63 : Int32) (σ_64 : ST) => (lt (x1_63 + 1) (fun x1_65 => (fX11_read_L206 n x1_65 σ_64)))) n (nI s) 0 τ1 = fX11_read_L206 n (nI s + 1) τ2 := a1
    rw [a1', nI_1]
    obtain ⟨τ', b1, b2, b3, b4, b5⟩ := ih (s + 1) n τ2 (by omega) (by omega) (fun j hj => by
      rw [a2.2.1 35 (by decide), a2.2.1 36 (by decide), a2.2.1 34 (by decide), g35, g36, g34, upd_at, upd_at, upd_at]
      by_cases q : j = s
      · rw [if_pos q, if_pos q, if_pos q, q]; exact ⟨rfl, rfl, rfl⟩
      · rw [if_neg q, if_neg q, if_neg q]; exact h0 j (by omega)) (fun j hj => a3 j (by omega)) (fun j hj => a4 j (by omega))
    exact ⟨τ', b1, fr_tr f1 (fr_tr (fr_up a2 (by decide) (by decide) (by decide)) b2), b3, b4, b5⟩
/-- the class's steps are taken over -/
theorem cpyA (f g : Nat → Int32) (n k : Nat) (h : k < n) : va_cpy f g 0 0 n k = f k := by
  unfold va_cpy
  rw [if_pos ⟨Nat.zero_le k, by omega⟩]
  exact congrArg f (by omega)
theorem xCopy (σ : ST) : ∃ σ', fX4_copyOf σ = some σ' ∧ fr [10, 11, 12] [21, 22, 23, 24, 25, 26, 27, 28, 29] [20] σ σ' ∧ gI σ' 10 = gI σ 7 ∧ gI σ' 11 = gI σ 8 ∧ (∀ k, k < 7 → gA σ' 21 k = gA σ 10 k ∧ gA σ' 22 k = gA σ 11 k ∧ gA σ' 23 k = gA σ 12 k ∧ gA σ' 24 k = gA σ 13 k ∧ gA σ' 25 k = gA σ 14 k ∧ gA σ' 26 k = gA σ 15 k ∧ gA σ' 27 k = gA σ 16 k) ∧ ∀ k, k < 400 → gA σ' 28 k = gA σ 17 k ∧ gA σ' 29 k = gA σ 18 k := by
  unfold fX4_copyOf
  rw [lt_def, lt_def, lt_def, lt_def, lt_def, lt_def, lt_def, lt_def, lt_def, lt_def, lt_def, lt_def, lt_def]
  refine ⟨_, rfl, fr_sA (fr_sA (fr_sA (fr_sA (fr_sA (fr_sA (fr_sA (fr_sA (fr_sA (fr_sB (fr_sI (fr_sI (fr_sI fr_rf (by decide)) (by decide)) (by decide)) (by decide)) (by decide)) (by decide)) (by decide)) (by decide)) (by decide)) (by decide)) (by decide)) (by decide)) (by decide), rfl, rfl, fun k hk => ?_, fun k hk => ?_⟩
  · exact ⟨cpyA _ _ 7 k hk, cpyA _ _ 7 k hk, cpyA _ _ 7 k hk, cpyA _ _ 7 k hk, cpyA _ _ 7 k hk, cpyA _ _ 7 k hk, cpyA _ _ 7 k hk⟩
  · exact ⟨cpyA _ _ 400 k hk, cpyA _ _ 400 k hk⟩
