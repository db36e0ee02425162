/-! X2_parseProduct private void parseProduct(int); -/
def fX2_parseProduct_L7 (rc : Int32 → ST → Option ST)  : Nat → Int32 → Int32 → ST → Option (ST)
  | 0, _, _, _ => none
  | n + 1, x1, x2, σ => (if ((400 : Int32)) ≤ x2 then (some σ) else (Option.bind (fX2_peek σ) (fun q_4 => (if q_4.1 = ((42 : Int32)) then (Option.bind (fX2_accept ((42 : Int32)) q_4.2) (fun q_6 => (Option.bind (fX2_parseUnit rc n x1 q_6) (fun q_7 => (Option.bind (fX4_addCode ((42 : Int32)) ((0 : Int32)) q_7) (fun q_8 => (lt (x2 + 1) (fun x2_9 => (fX2_parseProduct_L7 rc n x1 x2_9 q_8))))))))) else (some q_4.2)))))
def fX2_parseProduct (rc : Int32 → ST → Option ST) (n : Nat) (x1 : Int32) (σ : ST) : Option (ST) :=
  (Option.bind (fX2_parseUnit rc n x1 σ) (fun q_1 => (lt ((0 : Int32)) (fun x2_2 => (fX2_parseProduct_L7 rc n x1 x2_2 q_1)))))
section WK
variable {p : Program} {l : Launch} {e : Env} {R : Room} {s : State} {m : MethodId} {args : Array Value} {below : List Frame} {meth : Method} {c : Code} {Q : State → Prop}
variable {D : va_G} {ad : Nat → Nat} {cI cJ cB cZ : ClassId} {A : Nat → Prop} {cc : ByteArray} {nL lev : Nat}
variable {σ : ST} {pc : Nat} {lv : List (Nat × Value)} {st : List Value}
set_option maxHeartbeats 4000000 in
set_option maxRecDepth 100000 in
theorem kX2_parseProduct_L7 {rc : Int32 → ST → Option ST} {L : Nat} (C : Ctx p l e (rmL (L + 11)) s m args below meth c D (tyz cI cJ cB cZ) (wX ad cI cJ cB cZ) A cX2_parseProduct 3 (L + 11) RX2) (hr : meth.sig.returnType = none) {res : ST} (hrec : ∀ (dep : Int32) (σ : ST) (res : ST), rc dep σ = some res → CMv l D (tyz cI cJ cB cZ) (wX ad cI cJ cB cZ) L yX2_parseSum cX2_parseSum 4 none [.ref (ad 7), .int dep] σ res)   : ∀ (n : Nat) (x1 : Int32) (x2 : Int32) (σ : ST), fX2_parseProduct_L7 rc n x1 x2 σ = some res → G p l e (rmL (L + 11)) s m args below meth c (MQ below (Qv D (tyz cI cJ cB cZ) (wX ad cI cJ cB cZ) A res) args s 0 0 A) D (wX ad cI cJ cB cZ) A 3 σ 7 [(0, .ref (ad 7)), (1, .int x1), (2, .int x2)] [] := by
  intro n
  induction n with
  | zero => intro x1 x2 σ h; have h : none = some res := h; cases h
  | succ n ih =>
    intro x1 x2 σ h
    rw [fX2_parseProduct_L7] at h
    refine g_iload_n C dX2_parseProduct_7 rfl 2 rfl 8 rfl ?_
    refine g_sipush C (v := 400) dX2_parseProduct_8 (by decide) 11 rfl ?_
    refine g_icmp_ge C 50 dX2_parseProduct_11 (by decide) 14 rfl (fun c_3 => ?_) (fun c_3 => ?_)
    · have h := o_pos h c_3
      exact g_vret C hr dX2_parseProduct_50 h
    · have h := o_neg h c_3
      refine g_aload_n C dX2_parseProduct_14 rfl 0 rfl 15 rfl ?_
      obtain ⟨q_4, hq_4, h⟩ := o_bind h
      refine wcX2_40_X_7 C (kX2_peek hq_4) (by omega) (Nat.le_of_ble_eq_true rfl) dX2_parseProduct_15 18 rfl ?_
      refine g_bipush C (v := 42) dX2_parseProduct_18 (by decide) 20 rfl ?_
      refine g_icmp_ne C 50 dX2_parseProduct_20 (by decide) 23 rfl (fun c_5 => ?_) (fun c_5 => ?_)
      · have h := o_neg h c_5
        exact g_vret C hr dX2_parseProduct_50 h
      · have h := o_pos h c_5
        refine g_aload_n C dX2_parseProduct_23 rfl 0 rfl 24 rfl ?_
        refine g_bipush C (v := 42) dX2_parseProduct_24 (by decide) 26 rfl ?_
        obtain ⟨q_6, hq_6, h⟩ := o_bind h
        refine wcX2_58_X_7 C (kX2_accept hq_6) (by omega) (Nat.le_of_ble_eq_true rfl) dX2_parseProduct_26 29 rfl ?_
        refine g_aload_n C dX2_parseProduct_29 rfl 0 rfl 30 rfl ?_
        refine g_iload_n C dX2_parseProduct_30 rfl 1 rfl 31 rfl ?_
        obtain ⟨q_7, hq_7, h⟩ := o_bind h
        refine wcX2_104_X_7 C (kX2_parseUnit hrec hq_7) (by omega) (Nat.le_of_ble_eq_true rfl) dX2_parseProduct_31 34 rfl ?_
        refine g_aload_n C dX2_parseProduct_34 rfl 0 rfl 35 rfl ?_
        refine wgX2_22_7 C dX2_parseProduct_35 38 rfl ?_
        refine g_bipush C (v := 42) dX2_parseProduct_38 (by decide) 40 rfl ?_
        refine g_iconst C (v := 0) dX2_parseProduct_40 (by decide) 41 rfl ?_
        obtain ⟨q_8, hq_8, h⟩ := o_bind h
        refine wcX2_100_X_8 C (kX4_addCode hq_8) (by omega) (Nat.le_of_ble_eq_true rfl) dX2_parseProduct_41 44 rfl ?_
        obtain ⟨x2_9, ex2_9, h⟩ := o_lt h
        refine g_iinc C (lv' := [(2, .int x2_9), (0, .ref (ad 7)), (1, .int x1)]) ex2_9 dX2_parseProduct_44 2 rfl (by decide) (by decide) rfl 47 rfl ?_
        refine g_goto C 7 dX2_parseProduct_47 (by decide) ?_
        exact g_sub C [1, 2, 0] rfl (ih x1 x2_9 q_8 h)
set_option maxHeartbeats 4000000 in
set_option maxRecDepth 100000 in
theorem kX2_parseProduct {l : Launch} {D : va_G} {ad : Nat → Nat} {cI cJ cB cZ : ClassId} {rc : Int32 → ST → Option ST} {L : Nat} (hrec : ∀ (dep : Int32) (σ : ST) (res : ST), rc dep σ = some res → CMv l D (tyz cI cJ cB cZ) (wX ad cI cJ cB cZ) L yX2_parseSum cX2_parseSum 4 none [.ref (ad 7), .int dep] σ res)  {n : Nat} {x1 : Int32} {σ : ST} {res : ST} (h : fX2_parseProduct rc n x1 σ = some res) : CMv l D (tyz cI cJ cB cZ) (wX ad cI cJ cB cZ) (L + 11) yX2_parseProduct cX2_parseProduct 3 none [.ref (ad 7), .int x1] σ res := by
  refine cmv_body (own := RX2) (lv := [(0, .ref (ad 7)), (1, .int x1)]) (by decide) rfl (wX_addr _ _ _ _ _) (Nat.le_of_ble_eq_true rfl) rfl (fun p e s m args below meth c A C hr => ?_)
  unfold fX2_parseProduct at h
  refine g_aload_n C dX2_parseProduct_0 rfl 0 rfl 1 rfl ?_
  refine g_iload_n C dX2_parseProduct_1 rfl 1 rfl 2 rfl ?_
  obtain ⟨q_1, hq_1, h⟩ := o_bind h
  refine wcX2_104_X_7 C (kX2_parseUnit hrec hq_1) (by omega) (Nat.le_of_ble_eq_true rfl) dX2_parseProduct_2 5 rfl ?_
  refine g_iconst C (v := 0) dX2_parseProduct_5 (by decide) 6 rfl ?_
  obtain ⟨x2_2, ex2_2, h⟩ := o_lt h
  refine g_istore_n C (lv' := [(2, .int x2_2), (0, .ref (ad 7)), (1, .int x1)]) ex2_2 dX2_parseProduct_6 rfl (by decide) rfl 7 rfl ?_
  exact g_sub C [1, 2, 0] rfl (kX2_parseProduct_L7 C hr hrec  n x1 x2_2 q_1 h)
end WK
/-! X2_parseSum private void parseSum(int); -/
def fX2_parseSum_L7 (rc : Int32 → ST → Option ST)  : Nat → Int32 → Int32 → ST → Option (ST)
  | 0, _, _, _ => none
  | n + 1, x1, x2, σ => (if ((400 : Int32)) ≤ x2 then (some σ) else (Option.bind (fX2_peek σ) (fun q_4 => (lt (fun (x1_5 : Int32) (x2_6 : Int32) (σ_7 : ST) => (Option.bind (fX2_peek σ_7) (fun q_8 => (lt (q_8.1) (fun x3_9 => (Option.bind (fX2_accept x3_9 q_8.2) (fun q_10 => (Option.bind (fX2_parseProduct rc n x1_5 q_10) (fun q_11 => (Option.bind (fX4_addCode x3_9 ((0 : Int32)) q_11) (fun q_12 => (lt (x2_6 + 1) (fun x2_13 => (fX2_parseSum_L7 rc n x1_5 x2_13 q_12)))))))))))))) (fun j32 => (if q_4.1 = ((43 : Int32)) then (j32 x1 x2 q_4.2) else (Option.bind (fX2_peek q_4.2) (fun q_15 => (if q_15.1 = ((45 : Int32)) then (j32 x1 x2 q_15.2) else (some q_15.2))))))))))
def fX2_parseSum (rc : Int32 → ST → Option ST) (n : Nat) (x1 : Int32) (σ : ST) : Option (ST) :=
  (Option.bind (fX2_parseProduct rc n x1 σ) (fun q_1 => (lt ((0 : Int32)) (fun x2_2 => (fX2_parseSum_L7 rc n x1 x2_2 q_1)))))
section WK
variable {p : Program} {l : Launch} {e : Env} {R : Room} {s : State} {m : MethodId} {args : Array Value} {below : List Frame} {meth : Method} {c : Code} {Q : State → Prop}
variable {D : va_G} {ad : Nat → Nat} {cI cJ cB cZ : ClassId} {A : Nat → Prop} {cc : ByteArray} {nL lev : Nat}
variable {σ : ST} {pc : Nat} {lv : List (Nat × Value)} {st : List Value}
set_option maxHeartbeats 4000000 in
set_option maxRecDepth 100000 in
theorem kX2_parseSum_L7 {rc : Int32 → ST → Option ST} {L : Nat} (C : Ctx p l e (rmL (L + 12)) s m args below meth c D (tyz cI cJ cB cZ) (wX ad cI cJ cB cZ) A cX2_parseSum 4 (L + 12) RX2) (hr : meth.sig.returnType = none) {res : ST} (hrec : ∀ (dep : Int32) (σ : ST) (res : ST), rc dep σ = some res → CMv l D (tyz cI cJ cB cZ) (wX ad cI cJ cB cZ) L yX2_parseSum cX2_parseSum 4 none [.ref (ad 7), .int dep] σ res)   : ∀ (n : Nat) (x1 : Int32) (x2 : Int32) (σ : ST), fX2_parseSum_L7 rc n x1 x2 σ = some res → G p l e (rmL (L + 12)) s m args below meth c (MQ below (Qv D (tyz cI cJ cB cZ) (wX ad cI cJ cB cZ) A res) args s 0 0 A) D (wX ad cI cJ cB cZ) A 4 σ 7 [(0, .ref (ad 7)), (1, .int x1), (2, .int x2)] [] := by
  intro n
  induction n with
  | zero => intro x1 x2 σ h; have h : none = some res := h; cases h
  | succ n ih =>
    intro x1 x2 σ h
    rw [fX2_parseSum_L7] at h
    refine g_iload_n C dX2_parseSum_7 rfl 2 rfl 8 rfl ?_
    refine g_sipush C (v := 400) dX2_parseSum_8 (by decide) 11 rfl ?_
    refine g_icmp_ge C 62 dX2_parseSum_11 (by decide) 14 rfl (fun c_3 => ?_) (fun c_3 => ?_)
    · have h := o_pos h c_3
      exact g_vret C hr dX2_parseSum_62 h
    · have h := o_neg h c_3
      refine g_aload_n C dX2_parseSum_14 rfl 0 rfl 15 rfl ?_
      obtain ⟨q_4, hq_4, h⟩ := o_bind h
      refine wcX2_40_X_7 C (kX2_peek hq_4) (by omega) (Nat.le_of_ble_eq_true rfl) dX2_parseSum_15 18 rfl ?_
      refine g_bipush C (v := 43) dX2_parseSum_18 (by decide) 20 rfl ?_
      obtain ⟨j32, ej32, h⟩ := o_lt h
      have hj32 : ∀ (x1_5 : Int32) (x2_6 : Int32) (σ_7 : ST), j32 x1_5 x2_6 σ_7 = some res → G p l e (rmL (L + 12)) s m args below meth c (MQ below (Qv D (tyz cI cJ cB cZ) (wX ad cI cJ cB cZ) A res) args s 0 0 A) D (wX ad cI cJ cB cZ) A 4 σ_7 32 [(0, .ref (ad 7)), (1, .int x1_5), (2, .int x2_6)] [] := by
        intro x1_5 x2_6 σ_7 h
        rw [ej32] at h
        refine g_aload_n C dX2_parseSum_32 rfl 0 rfl 33 rfl ?_
        obtain ⟨q_8, hq_8, h⟩ := o_bind h
        refine wcX2_40_X_7 C (kX2_peek hq_8) (by omega) (Nat.le_of_ble_eq_true rfl) dX2_parseSum_33 36 rfl ?_
        obtain ⟨x3_9, ex3_9, h⟩ := o_lt h
        refine g_istore_n C (lv' := [(3, .int x3_9), (0, .ref (ad 7)), (1, .int x1_5), (2, .int x2_6)]) ex3_9 dX2_parseSum_36 rfl (by decide) rfl 37 rfl ?_
        refine g_aload_n C dX2_parseSum_37 rfl 1 rfl 38 rfl ?_
        refine g_iload_n C dX2_parseSum_38 rfl 0 rfl 39 rfl ?_
        obtain ⟨q_10, hq_10, h⟩ := o_bind h
        refine wcX2_58_X_7 C (kX2_accept hq_10) (by omega) (Nat.le_of_ble_eq_true rfl) dX2_parseSum_39 42 rfl ?_
        refine g_aload_n C dX2_parseSum_42 rfl 1 rfl 43 rfl ?_
        refine g_iload_n C dX2_parseSum_43 rfl 2 rfl 44 rfl ?_
        obtain ⟨q_11, hq_11, h⟩ := o_bind h
        refine wcX2_97_X_7 C (kX2_parseProduct hrec hq_11) (by omega) (Nat.le_of_ble_eq_true rfl) dX2_parseSum_44 47 rfl ?_
        refine g_aload_n C dX2_parseSum_47 rfl 1 rfl 48 rfl ?_
        refine wgX2_22_7 C dX2_parseSum_48 51 rfl ?_
        refine g_iload_n C dX2_parseSum_51 rfl 0 rfl 52 rfl ?_
        refine g_iconst C (v := 0) dX2_parseSum_52 (by decide) 53 rfl ?_
        obtain ⟨q_12, hq_12, h⟩ := o_bind h
        refine wcX2_100_X_8 C (kX4_addCode hq_12) (by omega) (Nat.le_of_ble_eq_true rfl) dX2_parseSum_53 56 rfl ?_
        obtain ⟨x2_13, ex2_13, h⟩ := o_lt h
        refine g_iinc C (lv' := [(2, .int x2_13), (3, .int x3_9), (0, .ref (ad 7)), (1, .int x1_5)]) ex2_13 dX2_parseSum_56 3 rfl (by decide) (by decide) rfl 59 rfl ?_
        refine g_goto C 7 dX2_parseSum_59 (by decide) ?_
        exact g_sub C [2, 3, 0] rfl (ih x1_5 x2_13 q_12 h)
      refine g_icmp_eq C 32 dX2_parseSum_20 (by decide) 23 rfl (fun c_14 => ?_) (fun c_14 => ?_)
      · have h := o_pos h c_14
        exact g_sub C [0, 1, 2] rfl (hj32 x1 x2 q_4.2 h)
      · have h := o_neg h c_14
        refine g_aload_n C dX2_parseSum_23 rfl 0 rfl 24 rfl ?_
        obtain ⟨q_15, hq_15, h⟩ := o_bind h
        refine wcX2_40_X_7 C (kX2_peek hq_15) (by omega) (Nat.le_of_ble_eq_true rfl) dX2_parseSum_24 27 rfl ?_
        refine g_bipush C (v := 45) dX2_parseSum_27 (by decide) 29 rfl ?_
        refine g_icmp_ne C 62 dX2_parseSum_29 (by decide) 32 rfl (fun c_16 => ?_) (fun c_16 => ?_)
        · have h := o_neg h c_16
          exact g_vret C hr dX2_parseSum_62 h
        · have h := o_pos h c_16
          exact g_sub C [0, 1, 2] rfl (hj32 x1 x2 q_15.2 h)
set_option maxHeartbeats 4000000 in
set_option maxRecDepth 100000 in
theorem kX2_parseSum {l : Launch} {D : va_G} {ad : Nat → Nat} {cI cJ cB cZ : ClassId} {rc : Int32 → ST → Option ST} {L : Nat} (hrec : ∀ (dep : Int32) (σ : ST) (res : ST), rc dep σ = some res → CMv l D (tyz cI cJ cB cZ) (wX ad cI cJ cB cZ) L yX2_parseSum cX2_parseSum 4 none [.ref (ad 7), .int dep] σ res)  {n : Nat} {x1 : Int32} {σ : ST} {res : ST} (h : fX2_parseSum rc n x1 σ = some res) : CMv l D (tyz cI cJ cB cZ) (wX ad cI cJ cB cZ) (L + 12) yX2_parseSum cX2_parseSum 4 none [.ref (ad 7), .int x1] σ res := by
  refine cmv_body (own := RX2) (lv := [(0, .ref (ad 7)), (1, .int x1)]) (by decide) rfl (wX_addr _ _ _ _ _) (Nat.le_of_ble_eq_true rfl) rfl (fun p e s m args below meth c A C hr => ?_)
  unfold fX2_parseSum at h
  refine g_aload_n C dX2_parseSum_0 rfl 0 rfl 1 rfl ?_
  refine g_iload_n C dX2_parseSum_1 rfl 1 rfl 2 rfl ?_
  obtain ⟨q_1, hq_1, h⟩ := o_bind h
  refine wcX2_97_X_7 C (kX2_parseProduct hrec hq_1) (by omega) (Nat.le_of_ble_eq_true rfl) dX2_parseSum_2 5 rfl ?_
  refine g_iconst C (v := 0) dX2_parseSum_5 (by decide) 6 rfl ?_
  obtain ⟨x2_2, ex2_2, h⟩ := o_lt h
  refine g_istore_n C (lv' := [(2, .int x2_2), (0, .ref (ad 7)), (1, .int x1)]) ex2_2 dX2_parseSum_6 rfl (by decide) rfl 7 rfl ?_
  exact g_sub C [1, 2, 0] rfl (kX2_parseSum_L7 C hr hrec  n x1 x2_2 q_1 h)
end WK
def fX2_parseSumD : Nat → Nat → Int32 → ST → Option ST
  | 0, _, _, _ => none
  | d + 1, n, dep, σ => fX2_parseSum (fX2_parseSumD d n) n dep σ
theorem kX2_parseSumD {l : Launch} {D : va_G} {ad : Nat → Nat} {cI cJ cB cZ : ClassId} (d : Nat) : ∀ {n : Nat} {dep : Int32} {σ res : ST}, fX2_parseSumD d n dep σ = some res → CMv l D (tyz cI cJ cB cZ) (wX ad cI cJ cB cZ) (12 * d) yX2_parseSum cX2_parseSum 4 none [.ref (ad 7), .int dep] σ res := by
  induction d with
  | zero => intro n dep σ res h; have h : none = some res := h; cases h
  | succ d ih =>
    intro n dep σ res h
    exact kX2_parseSum (rc := fX2_parseSumD d n) (L := 12 * d) (fun dep σ res h => ih h) h

/-! X4_endStep void endStep(); -/
def fX4_endStep  (σ : ST) : Option (ST) :=
  (if ((7 : Int32)) ≤ (gI σ 7) then (some σ) else (if ix (gI σ 7) 7 then (lt (stA σ 16 (gI σ 7) (gI σ 9)) (fun σ_3 => (lt (sI σ_3 7 ((gI σ_3 7) + ((1 : Int32)))) (fun σ_4 => (some σ_4))))) else none))
section WK
variable {p : Program} {l : Launch} {e : Env} {R : Room} {s : State} {m : MethodId} {args : Array Value} {below : List Frame} {meth : Method} {c : Code} {Q : State → Prop}
variable {D : va_G} {ad : Nat → Nat} {cI cJ cB cZ : ClassId} {A : Nat → Prop} {cc : ByteArray} {nL lev : Nat}
variable {σ : ST} {pc : Nat} {lv : List (Nat × Value)} {st : List Value}
set_option maxHeartbeats 4000000 in
set_option maxRecDepth 100000 in
theorem kX4_endStep {l : Launch} {D : va_G} {ad : Nat → Nat} {cI cJ cB cZ : ClassId}   {σ : ST} {res : ST} (h : fX4_endStep σ = some res) : CMv l D (tyz cI cJ cB cZ) (wX ad cI cJ cB cZ) 0 yX4_endStep cX4_endStep 1 none [.ref (ad 8)] σ res := by
  refine cmv_body (own := RX4) (lv := [(0, .ref (ad 8))]) (by decide) rfl (wX_addr _ _ _ _ _) (Nat.le_of_ble_eq_true rfl) rfl (fun p e s m args below meth c A C hr => ?_)
  unfold fX4_endStep at h
  refine g_aload_n C dX4_endStep_0 rfl 0 rfl 1 rfl ?_
  refine wgX4_9_8 C dX4_endStep_1 4 rfl ?_
  refine g_bipush C (v := 7) dX4_endStep_4 (by decide) 6 rfl ?_
  refine g_icmp_ge C 32 dX4_endStep_6 (by decide) 9 rfl (fun c_1 => ?_) (fun c_1 => ?_)
  · have h := o_pos h c_1
    exact g_vret C hr dX4_endStep_32 h
  · have h := o_neg h c_1
    refine g_aload_n C dX4_endStep_9 rfl 0 rfl 10 rfl ?_
    refine wgX4_41_8 C dX4_endStep_10 13 rfl ?_
    refine g_aload_n C dX4_endStep_13 rfl 0 rfl 14 rfl ?_
    refine wgX4_9_8 C dX4_endStep_14 17 rfl ?_
    refine g_aload_n C dX4_endStep_17 rfl 0 rfl 18 rfl ?_
    refine wgX4_50_8 C dX4_endStep_18 21 rfl ?_
    obtain ⟨c_2, h⟩ := o_chk h
    obtain ⟨σ_3, eσ_3, h⟩ := o_lt h
    refine wtX_16 C eσ_3 c_2 dX4_endStep_21 22 rfl ?_
    refine g_aload_n C dX4_endStep_22 rfl 0 rfl 23 rfl ?_
    refine g_dup C dX4_endStep_23 rfl 24 rfl ?_
    refine wgX4_9_8 C dX4_endStep_24 27 rfl ?_
    refine g_iconst C (v := 1) dX4_endStep_27 (by decide) 28 rfl ?_
    refine g_iadd C dX4_endStep_28 29 rfl ?_
    obtain ⟨σ_4, eσ_4, h⟩ := o_lt h
    refine wpX4_9_8 C eσ_4 dX4_endStep_29 32 rfl ?_
    exact g_vret C hr dX4_endStep_32 h
end WK
/-! X2_parseStep private void parseStep(); -/
def fX2_parseStep (n : Nat)  (σ : ST) : Option (ST) :=
  (Option.bind (fX2_peek σ) (fun q_1 => (lt (q_1.1) (fun x1_2 => (lt (fun (x1_3 : Int32) (σ_4 : ST) => (if (gI σ_4 7) < ((7 : Int32)) then (lt (fun (x1_6 : Int32) (v_7 : Int32) (σ_8 : ST) => (Option.bind (fX4_beginStep v_7 σ_8) (fun q_9 => (Option.bind (fX2_accept x1_6 q_9) (fun q_10 => (lt (fun (v_11 : Int32) (v_12 : Int32) (σ_13 : ST) => (Option.bind (fX2_parseHead n v_12 v_11 σ_13) (fun q_14 => (Option.bind (fX2_accept ((61 : Int32)) q_14) (fun q_15 => (Option.bind (fX2_parseSumD 8 n ((0 : Int32)) q_15) (fun q_16 => (Option.bind (fX2_accept ((59 : Int32)) q_16) (fun q_17 => (Option.bind (fX4_endStep q_17) (fun q_18 => (some q_18)))))))))))) (fun j91 => (if x1_6 = ((261 : Int32)) then (j91 ((1 : Int32)) (gI q_10 7) q_10) else (j91 ((0 : Int32)) (gI q_10 7) q_10))))))))) (fun j63 => (if x1_3 = ((261 : Int32)) then (j63 x1_3 ((1 : Int32)) σ_4) else (j63 x1_3 ((0 : Int32)) σ_4)))) else (Option.bind (fX2_fail ((2 : Int32)) σ_4) (fun q_21 => (some q_21))))) (fun j27 => (if x1_2 = ((260 : Int32)) then (j27 x1_2 q_1.2) else (if x1_2 = ((261 : Int32)) then (j27 x1_2 q_1.2) else (Option.bind (fX2_fail ((1 : Int32)) q_1.2) (fun q_24 => (some q_24)))))))))))
section WK
variable {p : Program} {l : Launch} {e : Env} {R : Room} {s : State} {m : MethodId} {args : Array Value} {below : List Frame} {meth : Method} {c : Code} {Q : State → Prop}
variable {D : va_G} {ad : Nat → Nat} {cI cJ cB cZ : ClassId} {A : Nat → Prop} {cc : ByteArray} {nL lev : Nat}
variable {σ : ST} {pc : Nat} {lv : List (Nat × Value)} {st : List Value}
set_option maxHeartbeats 4000000 in
set_option maxRecDepth 100000 in
theorem kX2_parseStep {l : Launch} {D : va_G} {ad : Nat → Nat} {cI cJ cB cZ : ClassId}  {n : Nat}  {σ : ST} {res : ST} (h : fX2_parseStep n σ = some res) : CMv l D (tyz cI cJ cB cZ) (wX ad cI cJ cB cZ) 97 yX2_parseStep cX2_parseStep 2 none [.ref (ad 7)] σ res := by
  refine cmv_body (own := RX2) (lv := [(0, .ref (ad 7))]) (by decide) rfl (wX_addr _ _ _ _ _) (Nat.le_of_ble_eq_true rfl) rfl (fun p e s m args below meth c A C hr => ?_)
  unfold fX2_parseStep at h
  refine g_aload_n C dX2_parseStep_0 rfl 0 rfl 1 rfl ?_
  obtain ⟨q_1, hq_1, h⟩ := o_bind h
  refine wcX2_40_X_7 C (kX2_peek hq_1) (by decide) (Nat.le_of_ble_eq_true rfl) dX2_parseStep_1 4 rfl ?_
  obtain ⟨x1_2, ex1_2, h⟩ := o_lt h
  refine g_istore_n C (lv' := [(1, .int x1_2), (0, .ref (ad 7))]) ex1_2 dX2_parseStep_4 rfl (by decide) rfl 5 rfl ?_
  refine g_iload_n C dX2_parseStep_5 rfl 0 rfl 6 rfl ?_
  refine g_sipush C (v := 260) dX2_parseStep_6 (by decide) 9 rfl ?_
  obtain ⟨j27, ej27, h⟩ := o_lt h
  have hj27 : ∀ (x1_3 : Int32) (σ_4 : ST), j27 x1_3 σ_4 = some res → G p l e (rmL 97) s m args below meth c (MQ below (Qv D (tyz cI cJ cB cZ) (wX ad cI cJ cB cZ) A res) args s 0 0 A) D (wX ad cI cJ cB cZ) A 2 σ_4 27 [(0, .ref (ad 7)), (1, .int x1_3)] [] := by
    intro x1_3 σ_4 h
    rw [ej27] at h
    refine g_aload_n C dX2_parseStep_27 rfl 0 rfl 28 rfl ?_
    refine wgX2_22_7 C dX2_parseStep_28 31 rfl ?_
    refine wgX2_51_8 C dX2_parseStep_31 34 rfl ?_
    refine g_bipush C (v := 7) dX2_parseStep_34 (by decide) 36 rfl ?_
    refine g_icmp_lt C 47 dX2_parseStep_36 (by decide) 39 rfl (fun c_5 => ?_) (fun c_5 => ?_)
    · have h := o_pos h c_5
      refine g_aload_n C dX2_parseStep_47 rfl 0 rfl 48 rfl ?_
      refine wgX2_22_7 C dX2_parseStep_48 51 rfl ?_
      refine g_iload_n C dX2_parseStep_51 rfl 1 rfl 52 rfl ?_
      refine g_sipush C (v := 261) dX2_parseStep_52 (by decide) 55 rfl ?_
      obtain ⟨j63, ej63, h⟩ := o_lt h
      have hj63 : ∀ (x1_6 : Int32) (v_7 : Int32) (σ_8 : ST), j63 x1_6 v_7 σ_8 = some res → G p l e (rmL 97) s m args below meth c (MQ below (Qv D (tyz cI cJ cB cZ) (wX ad cI cJ cB cZ) A res) args s 0 0 A) D (wX ad cI cJ cB cZ) A 2 σ_8 63 [(0, .ref (ad 7)), (1, .int x1_6)] [.int v_7, .ref (ad 8)] := by
        intro x1_6 v_7 σ_8 h
        rw [ej63] at h
        obtain ⟨q_9, hq_9, h⟩ := o_bind h
        refine wcX2_54_X_8 C (kX4_beginStep hq_9) (by decide) (Nat.le_of_ble_eq_true rfl) dX2_parseStep_63 66 rfl ?_
        refine g_aload_n C dX2_parseStep_66 rfl 0 rfl 67 rfl ?_
        refine g_iload_n C dX2_parseStep_67 rfl 1 rfl 68 rfl ?_
        obtain ⟨q_10, hq_10, h⟩ := o_bind h
        refine wcX2_58_X_7 C (kX2_accept hq_10) (by decide) (Nat.le_of_ble_eq_true rfl) dX2_parseStep_68 71 rfl ?_
        refine g_aload_n C dX2_parseStep_71 rfl 0 rfl 72 rfl ?_
        refine g_aload_n C dX2_parseStep_72 rfl 0 rfl 73 rfl ?_
        refine wgX2_22_7 C dX2_parseStep_73 76 rfl ?_
        refine wgX2_51_8 C dX2_parseStep_76 79 rfl ?_
        refine g_iload_n C dX2_parseStep_79 rfl 1 rfl 80 rfl ?_
        refine g_sipush C (v := 261) dX2_parseStep_80 (by decide) 83 rfl ?_
        obtain ⟨j91, ej91, h⟩ := o_lt h
        have hj91 : ∀ (v_11 : Int32) (v_12 : Int32) (σ_13 : ST), j91 v_11 v_12 σ_13 = some res → G p l e (rmL 97) s m args below meth c (MQ below (Qv D (tyz cI cJ cB cZ) (wX ad cI cJ cB cZ) A res) args s 0 0 A) D (wX ad cI cJ cB cZ) A 2 σ_13 91 [(0, .ref (ad 7))] [.int v_11, .int v_12, .ref (ad 7)] := by
          intro v_11 v_12 σ_13 h
          rw [ej91] at h
          obtain ⟨q_14, hq_14, h⟩ := o_bind h
          refine wcX2_61_X_7 C (kX2_parseHead hq_14) (by decide) (Nat.le_of_ble_eq_true rfl) dX2_parseStep_91 94 rfl ?_
          refine g_aload_n C dX2_parseStep_94 rfl 0 rfl 95 rfl ?_
          refine g_bipush C (v := 61) dX2_parseStep_95 (by decide) 97 rfl ?_
          obtain ⟨q_15, hq_15, h⟩ := o_bind h
          refine wcX2_58_X_7 C (kX2_accept hq_15) (by decide) (Nat.le_of_ble_eq_true rfl) dX2_parseStep_97 100 rfl ?_
          refine g_aload_n C dX2_parseStep_100 rfl 0 rfl 101 rfl ?_
          refine g_iconst C (v := 0) dX2_parseStep_101 (by decide) 102 rfl ?_
          obtain ⟨q_16, hq_16, h⟩ := o_bind h
          refine wcX2_65_X_7 C (kX2_parseSumD 8 hq_16) (by decide) (Nat.le_of_ble_eq_true rfl) dX2_parseStep_102 105 rfl ?_
          refine g_aload_n C dX2_parseStep_105 rfl 0 rfl 106 rfl ?_
          refine g_bipush C (v := 59) dX2_parseStep_106 (by decide) 108 rfl ?_
          obtain ⟨q_17, hq_17, h⟩ := o_bind h
          refine wcX2_58_X_7 C (kX2_accept hq_17) (by decide) (Nat.le_of_ble_eq_true rfl) dX2_parseStep_108 111 rfl ?_
          refine g_aload_n C dX2_parseStep_111 rfl 0 rfl 112 rfl ?_
          refine wgX2_22_7 C dX2_parseStep_112 115 rfl ?_
          obtain ⟨q_18, hq_18, h⟩ := o_bind h
          refine wcX2_68_X_8 C (kX4_endStep hq_18) (by decide) (Nat.le_of_ble_eq_true rfl) dX2_parseStep_115 118 rfl ?_
          exact g_vret C hr dX2_parseStep_118 h
        refine g_icmp_ne C 90 dX2_parseStep_83 (by decide) 86 rfl (fun c_19 => ?_) (fun c_19 => ?_)
        · have h := o_neg h c_19
          refine g_iconst C (v := 0) dX2_parseStep_90 (by decide) 91 rfl ?_
          exact g_sub C [0] rfl (hj91 ((0 : Int32)) (gI q_10 7) q_10 h)
        · have h := o_pos h c_19
          refine g_iconst C (v := 1) dX2_parseStep_86 (by decide) 87 rfl ?_
          refine g_goto C 91 dX2_parseStep_87 (by decide) ?_
          exact g_sub C [0] rfl (hj91 ((1 : Int32)) (gI q_10 7) q_10 h)
      refine g_icmp_ne C 62 dX2_parseStep_55 (by decide) 58 rfl (fun c_20 => ?_) (fun c_20 => ?_)
      · have h := o_neg h c_20
        refine g_iconst C (v := 0) dX2_parseStep_62 (by decide) 63 rfl ?_
        exact g_sub C [0, 1] rfl (hj63 x1_3 ((0 : Int32)) σ_4 h)
      · have h := o_pos h c_20
        refine g_iconst C (v := 1) dX2_parseStep_58 (by decide) 59 rfl ?_
        refine g_goto C 63 dX2_parseStep_59 (by decide) ?_
        exact g_sub C [0, 1] rfl (hj63 x1_3 ((1 : Int32)) σ_4 h)
    · have h := o_neg h c_5
      refine g_aload_n C dX2_parseStep_39 rfl 0 rfl 40 rfl ?_
      refine g_iconst C (v := 2) dX2_parseStep_40 (by decide) 41 rfl ?_
      obtain ⟨q_21, hq_21, h⟩ := o_bind h
      refine wcX2_47_X_7 C (kX2_fail hq_21) (by decide) (Nat.le_of_ble_eq_true rfl) dX2_parseStep_41 44 rfl ?_
      refine g_goto C 118 dX2_parseStep_44 (by decide) ?_
      exact g_vret C hr dX2_parseStep_118 h
  refine g_icmp_eq C 27 dX2_parseStep_9 (by decide) 12 rfl (fun c_22 => ?_) (fun c_22 => ?_)
  · have h := o_pos h c_22
    exact g_sub C [1, 0] rfl (hj27 x1_2 q_1.2 h)
  · have h := o_neg h c_22
    refine g_iload_n C dX2_parseStep_12 rfl 0 rfl 13 rfl ?_
    refine g_sipush C (v := 261) dX2_parseStep_13 (by decide) 16 rfl ?_
    refine g_icmp_eq C 27 dX2_parseStep_16 (by decide) 19 rfl (fun c_23 => ?_) (fun c_23 => ?_)
    · have h := o_pos h c_23
      exact g_sub C [1, 0] rfl (hj27 x1_2 q_1.2 h)
    · have h := o_neg h c_23
      refine g_aload_n C dX2_parseStep_19 rfl 1 rfl 20 rfl ?_
      refine g_iconst C (v := 1) dX2_parseStep_20 (by decide) 21 rfl ?_
      obtain ⟨q_24, hq_24, h⟩ := o_bind h
      refine wcX2_47_X_7 C (kX2_fail hq_24) (by decide) (Nat.le_of_ble_eq_true rfl) dX2_parseStep_21 24 rfl ?_
      refine g_goto C 118 dX2_parseStep_24 (by decide) ?_
      exact g_vret C hr dX2_parseStep_118 h
end WK
/-! X2_parseText void parseText(); -/
def fX2_parseText_L34 (k67 : ST → Option (ST)) : Nat → Int32 → ST → Option (ST)
  | 0, _, _ => none
  | n + 1, x1, σ => (if ((7 : Int32)) < x1 then (k67 σ) else (if (gI σ 2) = 0 then (Option.bind (fX2_peek σ) (fun q_10 => (if q_10.1 = ((258 : Int32)) then (k67 q_10.2) else (Option.bind (fX2_parseStep n q_10.2) (fun q_12 => (lt (x1 + 1) (fun x1_13 => (fX2_parseText_L34 k67 n x1_13 q_12)))))))) else (k67 σ)))
def fX2_parseText (n : Nat)  (σ : ST) : Option (ST) :=
  (Option.bind (fX4_clear σ) (fun q_1 => (lt (sI q_1 4 ((0 : Int32))) (fun σ_2 => (lt (sI σ_2 2 ((0 : Int32))) (fun σ_3 => (lt (sI σ_3 3 ((-1 : Int32))) (fun σ_4 => (lt (sI σ_4 5 ((0 : Int32))) (fun σ_5 => (lt (sI σ_5 6 ((-1 : Int32))) (fun σ_6 => (lt ((0 : Int32)) (fun x1_7 => (fX2_parseText_L34 (fun (σ_14 : ST) => (if (gI σ_14 2) = 0 then (lt (sI σ_14 2 (gI σ_14 5)) (fun σ_16 => (lt (sI σ_16 3 (gI σ_16 6)) (fun σ_17 => (some σ_17))))) else (some σ_14))) n x1_7 σ_6)))))))))))))))
section WK
variable {p : Program} {l : Launch} {e : Env} {R : Room} {s : State} {m : MethodId} {args : Array Value} {below : List Frame} {meth : Method} {c : Code} {Q : State → Prop}
variable {D : va_G} {ad : Nat → Nat} {cI cJ cB cZ : ClassId} {A : Nat → Prop} {cc : ByteArray} {nL lev : Nat}
variable {σ : ST} {pc : Nat} {lv : List (Nat × Value)} {st : List Value}
set_option maxHeartbeats 4000000 in
set_option maxRecDepth 100000 in
theorem kX2_parseText_L34 (C : Ctx p l e (rmL 98) s m args below meth c D (tyz cI cJ cB cZ) (wX ad cI cJ cB cZ) A cX2_parseText 2 98 RX2) (hr : meth.sig.returnType = none) {res : ST} {k67 : ST → Option (ST)} (hk67 : ∀ (σ : ST), k67 σ = some res → G p l e (rmL 98) s m args below meth c (MQ below (Qv D (tyz cI cJ cB cZ) (wX ad cI cJ cB cZ) A res) args s 0 0 A) D (wX ad cI cJ cB cZ) A 2 σ 67 [(0, .ref (ad 7))] []) : ∀ (n : Nat) (x1 : Int32) (σ : ST), fX2_parseText_L34 k67 n x1 σ = some res → G p l e (rmL 98) s m args below meth c (MQ below (Qv D (tyz cI cJ cB cZ) (wX ad cI cJ cB cZ) A res) args s 0 0 A) D (wX ad cI cJ cB cZ) A 2 σ 34 [(0, .ref (ad 7)), (1, .int x1)] [] := by
  intro n
  induction n with
  | zero => intro x1 σ h; have h : none = some res := h; cases h
  | succ n ih =>
    intro x1 σ h
    rw [fX2_parseText_L34] at h
    refine g_iload_n C dX2_parseText_34 rfl 1 rfl 35 rfl ?_
    refine g_bipush C (v := 7) dX2_parseText_35 (by decide) 37 rfl ?_
    refine g_icmp_gt C 67 dX2_parseText_37 (by decide) 40 rfl (fun c_8 => ?_) (fun c_8 => ?_)
    · have h := o_pos h c_8
      exact g_sub C [0] rfl (hk67 σ h)
    · have h := o_neg h c_8
      refine g_aload_n C dX2_parseText_40 rfl 0 rfl 41 rfl ?_
      refine wgX2_9_7 C dX2_parseText_41 44 rfl ?_
      refine g_if_ne C 67 dX2_parseText_44 (by decide) 47 rfl (fun c_9 => ?_) (fun c_9 => ?_)
      · have h := o_neg h c_9
        exact g_sub C [0] rfl (hk67 σ h)
      · have h := o_pos h c_9
        refine g_aload_n C dX2_parseText_47 rfl 0 rfl 48 rfl ?_
        obtain ⟨q_10, hq_10, h⟩ := o_bind h
        refine wcX2_40_X_7 C (kX2_peek hq_10) (by decide) (Nat.le_of_ble_eq_true rfl) dX2_parseText_48 51 rfl ?_
        refine g_sipush C (v := 258) dX2_parseText_51 (by decide) 54 rfl ?_
        refine g_icmp_eq C 67 dX2_parseText_54 (by decide) 57 rfl (fun c_11 => ?_) (fun c_11 => ?_)
        · have h := o_pos h c_11
          exact g_sub C [0] rfl (hk67 q_10.2 h)
        · have h := o_neg h c_11
          refine g_aload_n C dX2_parseText_57 rfl 0 rfl 58 rfl ?_
          obtain ⟨q_12, hq_12, h⟩ := o_bind h
          refine wcX2_44_X_7 C (kX2_parseStep hq_12) (by decide) (Nat.le_of_ble_eq_true rfl) dX2_parseText_58 61 rfl ?_
          obtain ⟨x1_13, ex1_13, h⟩ := o_lt h
          refine g_iinc C (lv' := [(1, .int x1_13), (0, .ref (ad 7))]) ex1_13 dX2_parseText_61 1 rfl (by decide) (by decide) rfl 64 rfl ?_
          refine g_goto C 34 dX2_parseText_64 (by decide) ?_
          exact g_sub C [1, 0] rfl (ih x1_13 q_12 h)
set_option maxHeartbeats 4000000 in
set_option maxRecDepth 100000 in
theorem kX2_parseText {l : Launch} {D : va_G} {ad : Nat → Nat} {cI cJ cB cZ : ClassId}  {n : Nat}  {σ : ST} {res : ST} (h : fX2_parseText n σ = some res) : CMv l D (tyz cI cJ cB cZ) (wX ad cI cJ cB cZ) 98 yX2_parseText cX2_parseText 2 none [.ref (ad 7)] σ res := by
  refine cmv_body (own := RX2) (lv := [(0, .ref (ad 7))]) (by decide) rfl (wX_addr _ _ _ _ _) (Nat.le_of_ble_eq_true rfl) rfl (fun p e s m args below meth c A C hr => ?_)
  unfold fX2_parseText at h
  refine g_aload_n C dX2_parseText_0 rfl 0 rfl 1 rfl ?_
  refine wgX2_22_7 C dX2_parseText_1 4 rfl ?_
  obtain ⟨q_1, hq_1, h⟩ := o_bind h
  refine wcX2_26_X_8 C (kX4_clear hq_1) (by decide) (Nat.le_of_ble_eq_true rfl) dX2_parseText_4 7 rfl ?_
  refine g_aload_n C dX2_parseText_7 rfl 0 rfl 8 rfl ?_
  refine g_iconst C (v := 0) dX2_parseText_8 (by decide) 9 rfl ?_
  obtain ⟨σ_2, eσ_2, h⟩ := o_lt h
  refine wpX2_31_7 C eσ_2 dX2_parseText_9 12 rfl ?_
  refine g_aload_n C dX2_parseText_12 rfl 0 rfl 13 rfl ?_
  refine g_iconst C (v := 0) dX2_parseText_13 (by decide) 14 rfl ?_
  obtain ⟨σ_3, eσ_3, h⟩ := o_lt h
  refine wpX2_9_7 C eσ_3 dX2_parseText_14 17 rfl ?_
  refine g_aload_n C dX2_parseText_17 rfl 0 rfl 18 rfl ?_
  refine g_iconst C (v := -1) dX2_parseText_18 (by decide) 19 rfl ?_
  obtain ⟨σ_4, eσ_4, h⟩ := o_lt h
  refine wpX2_15_7 C eσ_4 dX2_parseText_19 22 rfl ?_
  refine g_aload_n C dX2_parseText_22 rfl 0 rfl 23 rfl ?_
  refine g_iconst C (v := 0) dX2_parseText_23 (by decide) 24 rfl ?_
  obtain ⟨σ_5, eσ_5, h⟩ := o_lt h
  refine wpX2_34_7 C eσ_5 dX2_parseText_24 27 rfl ?_
  refine g_aload_n C dX2_parseText_27 rfl 0 rfl 28 rfl ?_
  refine g_iconst C (v := -1) dX2_parseText_28 (by decide) 29 rfl ?_
  obtain ⟨σ_6, eσ_6, h⟩ := o_lt h
  refine wpX2_37_7 C eσ_6 dX2_parseText_29 32 rfl ?_
  refine g_iconst C (v := 0) dX2_parseText_32 (by decide) 33 rfl ?_
  obtain ⟨x1_7, ex1_7, h⟩ := o_lt h
  refine g_istore_n C (lv' := [(1, .int x1_7), (0, .ref (ad 7))]) ex1_7 dX2_parseText_33 rfl (by decide) rfl 34 rfl ?_
  exact g_sub C [1, 0] rfl (kX2_parseText_L34 C hr (fun σ_14 h => by
      refine g_aload_n C dX2_parseText_67 rfl 0 rfl 68 rfl ?_
      refine wgX2_9_7 C dX2_parseText_68 71 rfl ?_
      refine g_if_ne C 90 dX2_parseText_71 (by decide) 74 rfl (fun c_15 => ?_) (fun c_15 => ?_)
      · have h := o_neg h c_15
        exact g_vret C hr dX2_parseText_90 h
      · have h := o_pos h c_15
        refine g_aload_n C dX2_parseText_74 rfl 0 rfl 75 rfl ?_
        refine g_aload_n C dX2_parseText_75 rfl 0 rfl 76 rfl ?_
        refine wgX2_34_7 C dX2_parseText_76 79 rfl ?_
        obtain ⟨σ_16, eσ_16, h⟩ := o_lt h
        refine wpX2_9_7 C eσ_16 dX2_parseText_79 82 rfl ?_
        refine g_aload_n C dX2_parseText_82 rfl 0 rfl 83 rfl ?_
        refine g_aload_n C dX2_parseText_83 rfl 0 rfl 84 rfl ?_
        refine wgX2_37_7 C dX2_parseText_84 87 rfl ?_
        obtain ⟨σ_17, eσ_17, h⟩ := o_lt h
        refine wpX2_15_7 C eσ_17 dX2_parseText_87 90 rfl ?_
        exact g_vret C hr dX2_parseText_90 h) n x1_7 σ_6 h)
end WK
/-! X4_copyOf void copyOf(DawnHouse$Script); -/
def fX4_copyOf  (σ : ST) : Option (ST) :=
  (lt (sI σ 10 (gI σ 7)) (fun σ_1 => (lt (sI σ_1 11 (gI σ_1 8)) (fun σ_2 => (lt (sI σ_2 12 (gI σ_2 9)) (fun σ_3 => (lt (sB σ_3 20 (va_cpy (gB σ_3 9) (gB σ_3 20) ((0 : Int32)).toNatClampNeg ((0 : Int32)).toNatClampNeg ((7 : Int32)).toNatClampNeg)) (fun σ_4 => (lt (sA σ_4 21 (va_cpy (gA σ_4 10) (gA σ_4 21) ((0 : Int32)).toNatClampNeg ((0 : Int32)).toNatClampNeg ((7 : Int32)).toNatClampNeg)) (fun σ_5 => (lt (sA σ_5 22 (va_cpy (gA σ_5 11) (gA σ_5 22) ((0 : Int32)).toNatClampNeg ((0 : Int32)).toNatClampNeg ((7 : Int32)).toNatClampNeg)) (fun σ_6 => (lt (sA σ_6 23 (va_cpy (gA σ_6 12) (gA σ_6 23) ((0 : Int32)).toNatClampNeg ((0 : Int32)).toNatClampNeg ((7 : Int32)).toNatClampNeg)) (fun σ_7 => (lt (sA σ_7 24 (va_cpy (gA σ_7 13) (gA σ_7 24) ((0 : Int32)).toNatClampNeg ((0 : Int32)).toNatClampNeg ((7 : Int32)).toNatClampNeg)) (fun σ_8 => (lt (sA σ_8 25 (va_cpy (gA σ_8 14) (gA σ_8 25) ((0 : Int32)).toNatClampNeg ((0 : Int32)).toNatClampNeg ((7 : Int32)).toNatClampNeg)) (fun σ_9 => (lt (sA σ_9 26 (va_cpy (gA σ_9 15) (gA σ_9 26) ((0 : Int32)).toNatClampNeg ((0 : Int32)).toNatClampNeg ((7 : Int32)).toNatClampNeg)) (fun σ_10 => (lt (sA σ_10 27 (va_cpy (gA σ_10 16) (gA σ_10 27) ((0 : Int32)).toNatClampNeg ((0 : Int32)).toNatClampNeg ((7 : Int32)).toNatClampNeg)) (fun σ_11 => (lt (sA σ_11 28 (va_cpy (gA σ_11 17) (gA σ_11 28) ((0 : Int32)).toNatClampNeg ((0 : Int32)).toNatClampNeg ((400 : Int32)).toNatClampNeg)) (fun σ_12 => (lt (sA σ_12 29 (va_cpy (gA σ_12 18) (gA σ_12 29) ((0 : Int32)).toNatClampNeg ((0 : Int32)).toNatClampNeg ((400 : Int32)).toNatClampNeg)) (fun σ_13 => (some σ_13)))))))))))))))))))))))))))
section WK
variable {p : Program} {l : Launch} {e : Env} {R : Room} {s : State} {m : MethodId} {args : Array Value} {below : List Frame} {meth : Method} {c : Code} {Q : State → Prop}
variable {D : va_G} {ad : Nat → Nat} {cI cJ cB cZ : ClassId} {A : Nat → Prop} {cc : ByteArray} {nL lev : Nat}
variable {σ : ST} {pc : Nat} {lv : List (Nat × Value)} {st : List Value}
set_option maxHeartbeats 4000000 in
set_option maxRecDepth 100000 in
theorem kX4_copyOf {l : Launch} {D : va_G} {ad : Nat → Nat} {cI cJ cB cZ : ClassId}   {σ : ST} {res : ST} (h : fX4_copyOf σ = some res) : CMv l D (tyz cI cJ cB cZ) (wX ad cI cJ cB cZ) 1 yX4_copyOf cX4_copyOf 2 none [.ref (ad 19), .ref (ad 8)] σ res := by
  refine cmv_body (own := RX4) (lv := [(0, .ref (ad 19)), (1, .ref (ad 8))]) (by decide) rfl (wX_addr _ _ _ _ _) (Nat.le_of_ble_eq_true rfl) rfl (fun p e s m args below meth c A C hr => ?_)
  unfold fX4_copyOf at h
  refine g_aload_n C dX4_copyOf_0 rfl 0 rfl 1 rfl ?_
  refine g_aload_n C dX4_copyOf_1 rfl 1 rfl 2 rfl ?_
  refine wgX4_9_8 C dX4_copyOf_2 5 rfl ?_
  obtain ⟨σ_1, eσ_1, h⟩ := o_lt h
  refine wpX4_9_19 C eσ_1 dX4_copyOf_5 8 rfl ?_
  refine g_aload_n C dX4_copyOf_8 rfl 0 rfl 9 rfl ?_
  refine g_aload_n C dX4_copyOf_9 rfl 1 rfl 10 rfl ?_
  refine wgX4_15_8 C dX4_copyOf_10 13 rfl ?_
  obtain ⟨σ_2, eσ_2, h⟩ := o_lt h
  refine wpX4_15_19 C eσ_2 dX4_copyOf_13 16 rfl ?_
  refine g_aload_n C dX4_copyOf_16 rfl 0 rfl 17 rfl ?_
  refine g_aload_n C dX4_copyOf_17 rfl 1 rfl 18 rfl ?_
  refine wgX4_50_8 C dX4_copyOf_18 21 rfl ?_
  obtain ⟨σ_3, eσ_3, h⟩ := o_lt h
  refine wpX4_50_19 C eσ_3 dX4_copyOf_21 24 rfl ?_
  refine g_aload_n C dX4_copyOf_24 rfl 1 rfl 25 rfl ?_
  refine wgX4_18_8 C dX4_copyOf_25 28 rfl ?_
  refine g_iconst C (v := 0) dX4_copyOf_28 (by decide) 29 rfl ?_
  refine g_aload_n C dX4_copyOf_29 rfl 0 rfl 30 rfl ?_
  refine wgX4_18_19 C dX4_copyOf_30 33 rfl ?_
  refine g_iconst C (v := 0) dX4_copyOf_33 (by decide) 34 rfl ?_
  refine g_bipush C (v := 7) dX4_copyOf_34 (by decide) 36 rfl ?_
  obtain ⟨σ_4, eσ_4, h⟩ := o_lt h
  refine g_copyl C (σ' := σ_4) (inr_18 _ (List.mem_of_getElem? (i := 9) rfl)) (inr_18 _ (List.mem_of_getElem? (i := 10) rfl)) (inr_18 _ (List.mem_of_getElem? (i := 11) rfl)) (inr_18 _ (List.mem_of_getElem? (i := 12) rfl)) 1 (wX_at_9 _) (wX_at_20 _) rfl (by decide) (by decide) (by decide) (by decide) (by decide) (by decide) (Nat.le_of_ble_eq_true rfl) dX4_copyOf_36 (by rw [eσ_4]; exact wX_set_20 _ _) 39 rfl ?_
  refine g_aload_n C dX4_copyOf_39 rfl 1 rfl 40 rfl ?_
  refine wgX4_22_8 C dX4_copyOf_40 43 rfl ?_
  refine g_iconst C (v := 0) dX4_copyOf_43 (by decide) 44 rfl ?_
  refine g_aload_n C dX4_copyOf_44 rfl 0 rfl 45 rfl ?_
  refine wgX4_22_19 C dX4_copyOf_45 48 rfl ?_
  refine g_iconst C (v := 0) dX4_copyOf_48 (by decide) 49 rfl ?_
  refine g_bipush C (v := 7) dX4_copyOf_49 (by decide) 51 rfl ?_
  obtain ⟨σ_5, eσ_5, h⟩ := o_lt h
  refine g_copyi C (σ' := σ_5) (inr_18 _ (List.mem_of_getElem? (i := 9) rfl)) (inr_18 _ (List.mem_of_getElem? (i := 10) rfl)) (inr_18 _ (List.mem_of_getElem? (i := 11) rfl)) (inr_18 _ (List.mem_of_getElem? (i := 12) rfl)) 0 (wX_at_10 _) (wX_at_21 _) rfl (by decide) (by decide) (by decide) (by decide) (by decide) (by decide) (Nat.le_of_ble_eq_true rfl) dX4_copyOf_51 (by rw [eσ_5]; exact wX_set_21 _ _) 54 rfl ?_
  refine g_aload_n C dX4_copyOf_54 rfl 1 rfl 55 rfl ?_
  refine wgX4_26_8 C dX4_copyOf_55 58 rfl ?_
  refine g_iconst C (v := 0) dX4_copyOf_58 (by decide) 59 rfl ?_
  refine g_aload_n C dX4_copyOf_59 rfl 0 rfl 60 rfl ?_
  refine wgX4_26_19 C dX4_copyOf_60 63 rfl ?_
  refine g_iconst C (v := 0) dX4_copyOf_63 (by decide) 64 rfl ?_
  refine g_bipush C (v := 7) dX4_copyOf_64 (by decide) 66 rfl ?_
  obtain ⟨σ_6, eσ_6, h⟩ := o_lt h
  refine g_copyi C (σ' := σ_6) (inr_18 _ (List.mem_of_getElem? (i := 9) rfl)) (inr_18 _ (List.mem_of_getElem? (i := 10) rfl)) (inr_18 _ (List.mem_of_getElem? (i := 11) rfl)) (inr_18 _ (List.mem_of_getElem? (i := 12) rfl)) 0 (wX_at_11 _) (wX_at_22 _) rfl (by decide) (by decide) (by decide) (by decide) (by decide) (by decide) (Nat.le_of_ble_eq_true rfl) dX4_copyOf_66 (by rw [eσ_6]; exact wX_set_22 _ _) 69 rfl ?_
  refine g_aload_n C dX4_copyOf_69 rfl 1 rfl 70 rfl ?_
  refine wgX4_29_8 C dX4_copyOf_70 73 rfl ?_
  refine g_iconst C (v := 0) dX4_copyOf_73 (by decide) 74 rfl ?_
  refine g_aload_n C dX4_copyOf_74 rfl 0 rfl 75 rfl ?_
  refine wgX4_29_19 C dX4_copyOf_75 78 rfl ?_
  refine g_iconst C (v := 0) dX4_copyOf_78 (by decide) 79 rfl ?_
  refine g_bipush C (v := 7) dX4_copyOf_79 (by decide) 81 rfl ?_
  obtain ⟨σ_7, eσ_7, h⟩ := o_lt h
  refine g_copyi C (σ' := σ_7) (inr_18 _ (List.mem_of_getElem? (i := 9) rfl)) (inr_18 _ (List.mem_of_getElem? (i := 10) rfl)) (inr_18 _ (List.mem_of_getElem? (i := 11) rfl)) (inr_18 _ (List.mem_of_getElem? (i := 12) rfl)) 0 (wX_at_12 _) (wX_at_23 _) rfl (by decide) (by decide) (by decide) (by decide) (by decide) (by decide) (Nat.le_of_ble_eq_true rfl) dX4_copyOf_81 (by rw [eσ_7]; exact wX_set_23 _ _) 84 rfl ?_
  refine g_aload_n C dX4_copyOf_84 rfl 1 rfl 85 rfl ?_
  refine wgX4_32_8 C dX4_copyOf_85 88 rfl ?_
  refine g_iconst C (v := 0) dX4_copyOf_88 (by decide) 89 rfl ?_
  refine g_aload_n C dX4_copyOf_89 rfl 0 rfl 90 rfl ?_
  refine wgX4_32_19 C dX4_copyOf_90 93 rfl ?_
  refine g_iconst C (v := 0) dX4_copyOf_93 (by decide) 94 rfl ?_
  refine g_bipush C (v := 7) dX4_copyOf_94 (by decide) 96 rfl ?_
  obtain ⟨σ_8, eσ_8, h⟩ := o_lt h
  refine g_copyi C (σ' := σ_8) (inr_18 _ (List.mem_of_getElem? (i := 9) rfl)) (inr_18 _ (List.mem_of_getElem? (i := 10) rfl)) (inr_18 _ (List.mem_of_getElem? (i := 11) rfl)) (inr_18 _ (List.mem_of_getElem? (i := 12) rfl)) 0 (wX_at_13 _) (wX_at_24 _) rfl (by decide) (by decide) (by decide) (by decide) (by decide) (by decide) (Nat.le_of_ble_eq_true rfl) dX4_copyOf_96 (by rw [eσ_8]; exact wX_set_24 _ _) 99 rfl ?_
  refine g_aload_n C dX4_copyOf_99 rfl 1 rfl 100 rfl ?_
  refine wgX4_35_8 C dX4_copyOf_100 103 rfl ?_
  refine g_iconst C (v := 0) dX4_copyOf_103 (by decide) 104 rfl ?_
  refine g_aload_n C dX4_copyOf_104 rfl 0 rfl 105 rfl ?_
  refine wgX4_35_19 C dX4_copyOf_105 108 rfl ?_
  refine g_iconst C (v := 0) dX4_copyOf_108 (by decide) 109 rfl ?_
  refine g_bipush C (v := 7) dX4_copyOf_109 (by decide) 111 rfl ?_
  obtain ⟨σ_9, eσ_9, h⟩ := o_lt h
  refine g_copyi C (σ' := σ_9) (inr_18 _ (List.mem_of_getElem? (i := 9) rfl)) (inr_18 _ (List.mem_of_getElem? (i := 10) rfl)) (inr_18 _ (List.mem_of_getElem? (i := 11) rfl)) (inr_18 _ (List.mem_of_getElem? (i := 12) rfl)) 0 (wX_at_14 _) (wX_at_25 _) rfl (by decide) (by decide) (by decide) (by decide) (by decide) (by decide) (Nat.le_of_ble_eq_true rfl) dX4_copyOf_111 (by rw [eσ_9]; exact wX_set_25 _ _) 114 rfl ?_
  refine g_aload_n C dX4_copyOf_114 rfl 1 rfl 115 rfl ?_
  refine wgX4_38_8 C dX4_copyOf_115 118 rfl ?_
  refine g_iconst C (v := 0) dX4_copyOf_118 (by decide) 119 rfl ?_
  refine g_aload_n C dX4_copyOf_119 rfl 0 rfl 120 rfl ?_
  refine wgX4_38_19 C dX4_copyOf_120 123 rfl ?_
  refine g_iconst C (v := 0) dX4_copyOf_123 (by decide) 124 rfl ?_
  refine g_bipush C (v := 7) dX4_copyOf_124 (by decide) 126 rfl ?_
  obtain ⟨σ_10, eσ_10, h⟩ := o_lt h
  refine g_copyi C (σ' := σ_10) (inr_18 _ (List.mem_of_getElem? (i := 9) rfl)) (inr_18 _ (List.mem_of_getElem? (i := 10) rfl)) (inr_18 _ (List.mem_of_getElem? (i := 11) rfl)) (inr_18 _ (List.mem_of_getElem? (i := 12) rfl)) 0 (wX_at_15 _) (wX_at_26 _) rfl (by decide) (by decide) (by decide) (by decide) (by decide) (by decide) (Nat.le_of_ble_eq_true rfl) dX4_copyOf_126 (by rw [eσ_10]; exact wX_set_26 _ _) 129 rfl ?_
  refine g_aload_n C dX4_copyOf_129 rfl 1 rfl 130 rfl ?_
  refine wgX4_41_8 C dX4_copyOf_130 133 rfl ?_
  refine g_iconst C (v := 0) dX4_copyOf_133 (by decide) 134 rfl ?_
  refine g_aload_n C dX4_copyOf_134 rfl 0 rfl 135 rfl ?_
  refine wgX4_41_19 C dX4_copyOf_135 138 rfl ?_
  refine g_iconst C (v := 0) dX4_copyOf_138 (by decide) 139 rfl ?_
  refine g_bipush C (v := 7) dX4_copyOf_139 (by decide) 141 rfl ?_
  obtain ⟨σ_11, eσ_11, h⟩ := o_lt h
  refine g_copyi C (σ' := σ_11) (inr_18 _ (List.mem_of_getElem? (i := 9) rfl)) (inr_18 _ (List.mem_of_getElem? (i := 10) rfl)) (inr_18 _ (List.mem_of_getElem? (i := 11) rfl)) (inr_18 _ (List.mem_of_getElem? (i := 12) rfl)) 0 (wX_at_16 _) (wX_at_27 _) rfl (by decide) (by decide) (by decide) (by decide) (by decide) (by decide) (Nat.le_of_ble_eq_true rfl) dX4_copyOf_141 (by rw [eσ_11]; exact wX_set_27 _ _) 144 rfl ?_
  refine g_aload_n C dX4_copyOf_144 rfl 1 rfl 145 rfl ?_
  refine wgX4_44_8 C dX4_copyOf_145 148 rfl ?_
  refine g_iconst C (v := 0) dX4_copyOf_148 (by decide) 149 rfl ?_
  refine g_aload_n C dX4_copyOf_149 rfl 0 rfl 150 rfl ?_
  refine wgX4_44_19 C dX4_copyOf_150 153 rfl ?_
  refine g_iconst C (v := 0) dX4_copyOf_153 (by decide) 154 rfl ?_
  refine g_sipush C (v := 400) dX4_copyOf_154 (by decide) 157 rfl ?_
  obtain ⟨σ_12, eσ_12, h⟩ := o_lt h
  refine g_copyi C (σ' := σ_12) (inr_18 _ (List.mem_of_getElem? (i := 9) rfl)) (inr_18 _ (List.mem_of_getElem? (i := 10) rfl)) (inr_18 _ (List.mem_of_getElem? (i := 11) rfl)) (inr_18 _ (List.mem_of_getElem? (i := 12) rfl)) 0 (wX_at_17 _) (wX_at_28 _) rfl (by decide) (by decide) (by decide) (by decide) (by decide) (by decide) (Nat.le_of_ble_eq_true rfl) dX4_copyOf_157 (by rw [eσ_12]; exact wX_set_28 _ _) 160 rfl ?_
  refine g_aload_n C dX4_copyOf_160 rfl 1 rfl 161 rfl ?_
  refine wgX4_47_8 C dX4_copyOf_161 164 rfl ?_
  refine g_iconst C (v := 0) dX4_copyOf_164 (by decide) 165 rfl ?_
  refine g_aload_n C dX4_copyOf_165 rfl 0 rfl 166 rfl ?_
  refine wgX4_47_19 C dX4_copyOf_166 169 rfl ?_
  refine g_iconst C (v := 0) dX4_copyOf_169 (by decide) 170 rfl ?_
  refine g_sipush C (v := 400) dX4_copyOf_170 (by decide) 173 rfl ?_
  obtain ⟨σ_13, eσ_13, h⟩ := o_lt h
  refine g_copyi C (σ' := σ_13) (inr_18 _ (List.mem_of_getElem? (i := 9) rfl)) (inr_18 _ (List.mem_of_getElem? (i := 10) rfl)) (inr_18 _ (List.mem_of_getElem? (i := 11) rfl)) (inr_18 _ (List.mem_of_getElem? (i := 12) rfl)) 0 (wX_at_18 _) (wX_at_29 _) rfl (by decide) (by decide) (by decide) (by decide) (by decide) (by decide) (Nat.le_of_ble_eq_true rfl) dX4_copyOf_173 (by rw [eσ_13]; exact wX_set_29 _ _) 176 rfl ?_
  exact g_vret C hr dX4_copyOf_176 h
end WK
/-! X9_startAnew void startAnew(); -/
def fX9_startAnew_L12 (k30 : ST → Option (ST)) : Nat → Int32 → ST → Option (ST)
  | 0, _, _ => none
  | n + 1, x1, σ => (if ((3 : Int32)) ≤ x1 then (k30 σ) else (if ix x1 3 then (lt (stA σ 53 x1 ((-1 : Int32))) (fun σ_6 => (lt (x1 + 1) (fun x1_7 => (fX9_startAnew_L12 k30 n x1_7 σ_6))))) else none))
def fX9_startAnew_L32  : Nat → Int32 → ST → Option (ST)
  | 0, _, _ => none
  | n + 1, x1, σ => (if ((7 : Int32)) ≤ x1 then (some σ) else (if ix x1 7 then (lt (stA σ 54 x1 x1) (fun σ_12 => (if ix x1 7 then (lt (stA σ_12 56 x1 ((0 : Int32))) (fun σ_14 => (lt (x1 + 1) (fun x1_15 => (fX9_startAnew_L32 n x1_15 σ_14))))) else none))) else none))
def fX9_startAnew (n : Nat)  (σ : ST) : Option (ST) :=
  (lt (sI σ 20 ((0 : Int32))) (fun σ_1 => (lt (sI σ_1 21 ((0 : Int32))) (fun σ_2 => (lt ((0 : Int32)) (fun x1_3 => (fX9_startAnew_L12 (fun (σ_8 : ST) => (lt ((0 : Int32)) (fun x1_9 => (fX9_startAnew_L32 n x1_9 σ_8)))) n x1_3 σ_2)))))))
section WK
variable {p : Program} {l : Launch} {e : Env} {R : Room} {s : State} {m : MethodId} {args : Array Value} {below : List Frame} {meth : Method} {c : Code} {Q : State → Prop}
variable {D : va_G} {ad : Nat → Nat} {cI cJ cB cZ : ClassId} {A : Nat → Prop} {cc : ByteArray} {nL lev : Nat}
variable {σ : ST} {pc : Nat} {lv : List (Nat × Value)} {st : List Value}
set_option maxHeartbeats 4000000 in
set_option maxRecDepth 100000 in
theorem kX9_startAnew_L12 (C : Ctx p l e (rmL 0) s m args below meth c D (tyz cI cJ cB cZ) (wX ad cI cJ cB cZ) A cX9_startAnew 2 0 RX9) (hr : meth.sig.returnType = none) {res : ST} {k30 : ST → Option (ST)} (hk30 : ∀ (σ : ST), k30 σ = some res → G p l e (rmL 0) s m args below meth c (MQ below (Qv D (tyz cI cJ cB cZ) (wX ad cI cJ cB cZ) A res) args s 0 0 A) D (wX ad cI cJ cB cZ) A 2 σ 30 [(0, .ref (ad 52))] []) : ∀ (n : Nat) (x1 : Int32) (σ : ST), fX9_startAnew_L12 k30 n x1 σ = some res → G p l e (rmL 0) s m args below meth c (MQ below (Qv D (tyz cI cJ cB cZ) (wX ad cI cJ cB cZ) A res) args s 0 0 A) D (wX ad cI cJ cB cZ) A 2 σ 12 [(0, .ref (ad 52)), (1, .int x1)] [] := by
  intro n
  induction n with
  | zero => intro x1 σ h; have h : none = some res := h; cases h
  | succ n ih =>
    intro x1 σ h
    rw [fX9_startAnew_L12] at h
    refine g_iload_n C dX9_startAnew_12 rfl 1 rfl 13 rfl ?_
    refine g_iconst C (v := 3) dX9_startAnew_13 (by decide) 14 rfl ?_
    refine g_icmp_ge C 30 dX9_startAnew_14 (by decide) 17 rfl (fun c_4 => ?_) (fun c_4 => ?_)
    · have h := o_pos h c_4
      exact g_sub C [0] rfl (hk30 σ h)
    · have h := o_neg h c_4
      refine g_aload_n C dX9_startAnew_17 rfl 0 rfl 18 rfl ?_
      refine wgX9_24_52 C dX9_startAnew_18 21 rfl ?_
      refine g_iload_n C dX9_startAnew_21 rfl 1 rfl 22 rfl ?_
      refine g_iconst C (v := -1) dX9_startAnew_22 (by decide) 23 rfl ?_
      obtain ⟨c_5, h⟩ := o_chk h
      obtain ⟨σ_6, eσ_6, h⟩ := o_lt h
      refine wtX_53 C eσ_6 c_5 dX9_startAnew_23 24 rfl ?_
      obtain ⟨x1_7, ex1_7, h⟩ := o_lt h
      refine g_iinc C (lv' := [(1, .int x1_7), (0, .ref (ad 52))]) ex1_7 dX9_startAnew_24 1 rfl (by decide) (by decide) rfl 27 rfl ?_
      refine g_goto C 12 dX9_startAnew_27 (by decide) ?_
      exact g_sub C [1, 0] rfl (ih x1_7 σ_6 h)
set_option maxHeartbeats 4000000 in
set_option maxRecDepth 100000 in
theorem kX9_startAnew_L32 (C : Ctx p l e (rmL 0) s m args below meth c D (tyz cI cJ cB cZ) (wX ad cI cJ cB cZ) A cX9_startAnew 2 0 RX9) (hr : meth.sig.returnType = none) {res : ST}   : ∀ (n : Nat) (x1 : Int32) (σ : ST), fX9_startAnew_L32 n x1 σ = some res → G p l e (rmL 0) s m args below meth c (MQ below (Qv D (tyz cI cJ cB cZ) (wX ad cI cJ cB cZ) A res) args s 0 0 A) D (wX ad cI cJ cB cZ) A 2 σ 32 [(0, .ref (ad 52)), (1, .int x1)] [] := by
  intro n
  induction n with
  | zero => intro x1 σ h; have h : none = some res := h; cases h
  | succ n ih =>
    intro x1 σ h
    rw [fX9_startAnew_L32] at h
    refine g_iload_n C dX9_startAnew_32 rfl 1 rfl 33 rfl ?_
    refine g_bipush C (v := 7) dX9_startAnew_33 (by decide) 35 rfl ?_
    refine g_icmp_ge C 58 dX9_startAnew_35 (by decide) 38 rfl (fun c_10 => ?_) (fun c_10 => ?_)
    · have h := o_pos h c_10
      exact g_vret C hr dX9_startAnew_58 h
    · have h := o_neg h c_10
      refine g_aload_n C dX9_startAnew_38 rfl 0 rfl 39 rfl ?_
      refine wgX9_28_52 C dX9_startAnew_39 42 rfl ?_
      refine g_iload_n C dX9_startAnew_42 rfl 1 rfl 43 rfl ?_
      refine g_iload_n C dX9_startAnew_43 rfl 1 rfl 44 rfl ?_
      obtain ⟨c_11, h⟩ := o_chk h
      obtain ⟨σ_12, eσ_12, h⟩ := o_lt h
      refine wtX_54 C eσ_12 c_11 dX9_startAnew_44 45 rfl ?_
      refine g_aload_n C dX9_startAnew_45 rfl 0 rfl 46 rfl ?_
      refine wgX9_34_52 C dX9_startAnew_46 49 rfl ?_
      refine g_iload_n C dX9_startAnew_49 rfl 1 rfl 50 rfl ?_
      refine g_iconst C (v := 0) dX9_startAnew_50 (by decide) 51 rfl ?_
      obtain ⟨c_13, h⟩ := o_chk h
      obtain ⟨σ_14, eσ_14, h⟩ := o_lt h
      refine wtX_56 C eσ_14 c_13 dX9_startAnew_51 52 rfl ?_
      obtain ⟨x1_15, ex1_15, h⟩ := o_lt h
      refine g_iinc C (lv' := [(1, .int x1_15), (0, .ref (ad 52))]) ex1_15 dX9_startAnew_52 1 rfl (by decide) (by decide) rfl 55 rfl ?_
      refine g_goto C 32 dX9_startAnew_55 (by decide) ?_
      exact g_sub C [1, 0] rfl (ih x1_15 σ_14 h)
set_option maxHeartbeats 4000000 in
set_option maxRecDepth 100000 in
theorem kX9_startAnew {l : Launch} {D : va_G} {ad : Nat → Nat} {cI cJ cB cZ : ClassId}  {n : Nat}  {σ : ST} {res : ST} (h : fX9_startAnew n σ = some res) : CMv l D (tyz cI cJ cB cZ) (wX ad cI cJ cB cZ) 0 yX9_startAnew cX9_startAnew 2 none [.ref (ad 52)] σ res := by
  refine cmv_body (own := RX9) (lv := [(0, .ref (ad 52))]) (by decide) rfl (wX_addr _ _ _ _ _) (Nat.le_of_ble_eq_true rfl) rfl (fun p e s m args below meth c A C hr => ?_)
  unfold fX9_startAnew at h
  refine g_aload_n C dX9_startAnew_0 rfl 0 rfl 1 rfl ?_
  refine g_iconst C (v := 0) dX9_startAnew_1 (by decide) 2 rfl ?_
  obtain ⟨σ_1, eσ_1, h⟩ := o_lt h
  refine wpX9_18_52 C eσ_1 dX9_startAnew_2 5 rfl ?_
  refine g_aload_n C dX9_startAnew_5 rfl 0 rfl 6 rfl ?_
  refine g_iconst C (v := 0) dX9_startAnew_6 (by decide) 7 rfl ?_
  obtain ⟨σ_2, eσ_2, h⟩ := o_lt h
  refine wpX9_21_52 C eσ_2 dX9_startAnew_7 10 rfl ?_
  refine g_iconst C (v := 0) dX9_startAnew_10 (by decide) 11 rfl ?_
  obtain ⟨x1_3, ex1_3, h⟩ := o_lt h
  refine g_istore_n C (lv' := [(1, .int x1_3), (0, .ref (ad 52))]) ex1_3 dX9_startAnew_11 rfl (by decide) rfl 12 rfl ?_
  exact g_sub C [1, 0] rfl (kX9_startAnew_L12 C hr (fun σ_8 h => by
      refine g_iconst C (v := 0) dX9_startAnew_30 (by decide) 31 rfl ?_
      obtain ⟨x1_9, ex1_9, h⟩ := o_lt h
      refine g_istore_n C (lv' := [(1, .int x1_9), (0, .ref (ad 52))]) ex1_9 dX9_startAnew_31 rfl (by decide) rfl 32 rfl ?_
      exact g_sub C [1, 0] rfl (kX9_startAnew_L32 C hr  n x1_9 σ_8 h)) n x1_3 σ_2 h)
end WK
/-! X3_startAnew void startAnew(); -/
def fX3_startAnew_L7 (k26 : ST → Option (ST)) : Nat → Int32 → ST → Option (ST)
  | 0, _, _ => none
  | n + 1, x1, σ => (if ((7 : Int32)) ≤ x1 then (k26 σ) else (if ix x1 7 then (lt (stA σ 49 x1 ((0 : Int32))) (fun σ_5 => (lt (x1 + 1) (fun x1_6 => (fX3_startAnew_L7 k26 n x1_6 σ_5))))) else none))
def fX3_startAnew_L28 (k47 : ST → Option (ST)) : Nat → Int32 → ST → Option (ST)
  | 0, _, _ => none
  | n + 1, x1, σ => (if ((42 : Int32)) ≤ x1 then (k47 σ) else (if ix x1 42 then (lt (stA σ 50 x1 ((0 : Int32))) (fun σ_11 => (lt (x1 + 1) (fun x1_12 => (fX3_startAnew_L28 k47 n x1_12 σ_11))))) else none))
def fX3_startAnew_L49  : Nat → Int32 → ST → Option (ST)
  | 0, _, _ => none
  | n + 1, x1, σ => (if ((336 : Int32)) ≤ x1 then (some σ) else (if ix x1 336 then (lt (stB σ 51 x1 ((0 : Int64))) (fun σ_17 => (lt (x1 + 1) (fun x1_18 => (fX3_startAnew_L49 n x1_18 σ_17))))) else none))
def fX3_startAnew (n : Nat)  (σ : ST) : Option (ST) :=
  (lt (sI σ 17 ((0 : Int32))) (fun σ_1 => (lt ((0 : Int32)) (fun x1_2 => (fX3_startAnew_L7 (fun (σ_7 : ST) => (lt ((0 : Int32)) (fun x1_8 => (fX3_startAnew_L28 (fun (σ_13 : ST) => (lt ((0 : Int32)) (fun x1_14 => (fX3_startAnew_L49 n x1_14 σ_13)))) n x1_8 σ_7)))) n x1_2 σ_1)))))
section WK
variable {p : Program} {l : Launch} {e : Env} {R : Room} {s : State} {m : MethodId} {args : Array Value} {below : List Frame} {meth : Method} {c : Code} {Q : State → Prop}
variable {D : va_G} {ad : Nat → Nat} {cI cJ cB cZ : ClassId} {A : Nat → Prop} {cc : ByteArray} {nL lev : Nat}
variable {σ : ST} {pc : Nat} {lv : List (Nat × Value)} {st : List Value}
set_option maxHeartbeats 4000000 in
set_option maxRecDepth 100000 in
theorem kX3_startAnew_L7 (C : Ctx p l e (rmL 0) s m args below meth c D (tyz cI cJ cB cZ) (wX ad cI cJ cB cZ) A cX3_startAnew 2 0 RX3) (hr : meth.sig.returnType = none) {res : ST} {k26 : ST → Option (ST)} (hk26 : ∀ (σ : ST), k26 σ = some res → G p l e (rmL 0) s m args below meth c (MQ below (Qv D (tyz cI cJ cB cZ) (wX ad cI cJ cB cZ) A res) args s 0 0 A) D (wX ad cI cJ cB cZ) A 2 σ 26 [(0, .ref (ad 47))] []) : ∀ (n : Nat) (x1 : Int32) (σ : ST), fX3_startAnew_L7 k26 n x1 σ = some res → G p l e (rmL 0) s m args below meth c (MQ below (Qv D (tyz cI cJ cB cZ) (wX ad cI cJ cB cZ) A res) args s 0 0 A) D (wX ad cI cJ cB cZ) A 2 σ 7 [(0, .ref (ad 47)), (1, .int x1)] [] := by
  intro n
  induction n with
  | zero => intro x1 σ h; have h : none = some res := h; cases h
  | succ n ih =>
    intro x1 σ h
    rw [fX3_startAnew_L7] at h
    refine g_iload_n C dX3_startAnew_7 rfl 1 rfl 8 rfl ?_
    refine g_bipush C (v := 7) dX3_startAnew_8 (by decide) 10 rfl ?_
    refine g_icmp_ge C 26 dX3_startAnew_10 (by decide) 13 rfl (fun c_3 => ?_) (fun c_3 => ?_)
    · have h := o_pos h c_3
      exact g_sub C [0] rfl (hk26 σ h)
    · have h := o_neg h c_3
      refine g_aload_n C dX3_startAnew_13 rfl 0 rfl 14 rfl ?_
      refine wgX3_25_47 C dX3_startAnew_14 17 rfl ?_
      refine g_iload_n C dX3_startAnew_17 rfl 1 rfl 18 rfl ?_
      refine g_iconst C (v := 0) dX3_startAnew_18 (by decide) 19 rfl ?_
      obtain ⟨c_4, h⟩ := o_chk h
      obtain ⟨σ_5, eσ_5, h⟩ := o_lt h
      refine wtX_49 C eσ_5 c_4 dX3_startAnew_19 20 rfl ?_
      obtain ⟨x1_6, ex1_6, h⟩ := o_lt h
      refine g_iinc C (lv' := [(1, .int x1_6), (0, .ref (ad 47))]) ex1_6 dX3_startAnew_20 1 rfl (by decide) (by decide) rfl 23 rfl ?_
      refine g_goto C 7 dX3_startAnew_23 (by decide) ?_
      exact g_sub C [1, 0] rfl (ih x1_6 σ_5 h)
set_option maxHeartbeats 4000000 in
set_option maxRecDepth 100000 in
theorem kX3_startAnew_L28 (C : Ctx p l e (rmL 0) s m args below meth c D (tyz cI cJ cB cZ) (wX ad cI cJ cB cZ) A cX3_startAnew 2 0 RX3) (hr : meth.sig.returnType = none) {res : ST} {k47 : ST → Option (ST)} (hk47 : ∀ (σ : ST), k47 σ = some res → G p l e (rmL 0) s m args below meth c (MQ below (Qv D (tyz cI cJ cB cZ) (wX ad cI cJ cB cZ) A res) args s 0 0 A) D (wX ad cI cJ cB cZ) A 2 σ 47 [(0, .ref (ad 47))] []) : ∀ (n : Nat) (x1 : Int32) (σ : ST), fX3_startAnew_L28 k47 n x1 σ = some res → G p l e (rmL 0) s m args below meth c (MQ below (Qv D (tyz cI cJ cB cZ) (wX ad cI cJ cB cZ) A res) args s 0 0 A) D (wX ad cI cJ cB cZ) A 2 σ 28 [(0, .ref (ad 47)), (1, .int x1)] [] := by
  intro n
  induction n with
  | zero => intro x1 σ h; have h : none = some res := h; cases h
  | succ n ih =>
    intro x1 σ h
    rw [fX3_startAnew_L28] at h
    refine g_iload_n C dX3_startAnew_28 rfl 1 rfl 29 rfl ?_
    refine g_bipush C (v := 42) dX3_startAnew_29 (by decide) 31 rfl ?_
    refine g_icmp_ge C 47 dX3_startAnew_31 (by decide) 34 rfl (fun c_9 => ?_) (fun c_9 => ?_)
    · have h := o_pos h c_9
      exact g_sub C [0] rfl (hk47 σ h)
    · have h := o_neg h c_9
      refine g_aload_n C dX3_startAnew_34 rfl 0 rfl 35 rfl ?_
      refine wgX3_28_47 C dX3_startAnew_35 38 rfl ?_
      refine g_iload_n C dX3_startAnew_38 rfl 1 rfl 39 rfl ?_
      refine g_iconst C (v := 0) dX3_startAnew_39 (by decide) 40 rfl ?_
      obtain ⟨c_10, h⟩ := o_chk h
      obtain ⟨σ_11, eσ_11, h⟩ := o_lt h
      refine wtX_50 C eσ_11 c_10 dX3_startAnew_40 41 rfl ?_
      obtain ⟨x1_12, ex1_12, h⟩ := o_lt h
      refine g_iinc C (lv' := [(1, .int x1_12), (0, .ref (ad 47))]) ex1_12 dX3_startAnew_41 1 rfl (by decide) (by decide) rfl 44 rfl ?_
      refine g_goto C 28 dX3_startAnew_44 (by decide) ?_
      exact g_sub C [1, 0] rfl (ih x1_12 σ_11 h)
set_option maxHeartbeats 4000000 in
set_option maxRecDepth 100000 in
theorem kX3_startAnew_L49 (C : Ctx p l e (rmL 0) s m args below meth c D (tyz cI cJ cB cZ) (wX ad cI cJ cB cZ) A cX3_startAnew 2 0 RX3) (hr : meth.sig.returnType = none) {res : ST}   : ∀ (n : Nat) (x1 : Int32) (σ : ST), fX3_startAnew_L49 n x1 σ = some res → G p l e (rmL 0) s m args below meth c (MQ below (Qv D (tyz cI cJ cB cZ) (wX ad cI cJ cB cZ) A res) args s 0 0 A) D (wX ad cI cJ cB cZ) A 2 σ 49 [(0, .ref (ad 47)), (1, .int x1)] [] := by
  intro n
  induction n with
  | zero => intro x1 σ h; have h : none = some res := h; cases h
  | succ n ih =>
    intro x1 σ h
    rw [fX3_startAnew_L49] at h
    refine g_iload_n C dX3_startAnew_49 rfl 1 rfl 50 rfl ?_
    refine g_sipush C (v := 336) dX3_startAnew_50 (by decide) 53 rfl ?_
    refine g_icmp_ge C 69 dX3_startAnew_53 (by decide) 56 rfl (fun c_15 => ?_) (fun c_15 => ?_)
    · have h := o_pos h c_15
      exact g_vret C hr dX3_startAnew_69 h
    · have h := o_neg h c_15
      refine g_aload_n C dX3_startAnew_56 rfl 0 rfl 57 rfl ?_
      refine wgX3_31_47 C dX3_startAnew_57 60 rfl ?_
      refine g_iload_n C dX3_startAnew_60 rfl 1 rfl 61 rfl ?_
      refine g_lconst C (v := 0) dX3_startAnew_61 (by decide) 62 rfl ?_
      obtain ⟨c_16, h⟩ := o_chk h
      obtain ⟨σ_17, eσ_17, h⟩ := o_lt h
      refine wtX_51 C eσ_17 c_16 dX3_startAnew_62 63 rfl ?_
      obtain ⟨x1_18, ex1_18, h⟩ := o_lt h
      refine g_iinc C (lv' := [(1, .int x1_18), (0, .ref (ad 47))]) ex1_18 dX3_startAnew_63 1 rfl (by decide) (by decide) rfl 66 rfl ?_
      refine g_goto C 49 dX3_startAnew_66 (by decide) ?_
      exact g_sub C [1, 0] rfl (ih x1_18 σ_17 h)
set_option maxHeartbeats 4000000 in
set_option maxRecDepth 100000 in
theorem kX3_startAnew {l : Launch} {D : va_G} {ad : Nat → Nat} {cI cJ cB cZ : ClassId}  {n : Nat}  {σ : ST} {res : ST} (h : fX3_startAnew n σ = some res) : CMv l D (tyz cI cJ cB cZ) (wX ad cI cJ cB cZ) 0 yX3_startAnew cX3_startAnew 2 none [.ref (ad 47)] σ res := by
  refine cmv_body (own := RX3) (lv := [(0, .ref (ad 47))]) (by decide) rfl (wX_addr _ _ _ _ _) (Nat.le_of_ble_eq_true rfl) rfl (fun p e s m args below meth c A C hr => ?_)
  unfold fX3_startAnew at h
  refine g_aload_n C dX3_startAnew_0 rfl 0 rfl 1 rfl ?_
  refine g_iconst C (v := 0) dX3_startAnew_1 (by decide) 2 rfl ?_
  obtain ⟨σ_1, eσ_1, h⟩ := o_lt h
  refine wpX3_18_47 C eσ_1 dX3_startAnew_2 5 rfl ?_
  refine g_iconst C (v := 0) dX3_startAnew_5 (by decide) 6 rfl ?_
  obtain ⟨x1_2, ex1_2, h⟩ := o_lt h
  refine g_istore_n C (lv' := [(1, .int x1_2), (0, .ref (ad 47))]) ex1_2 dX3_startAnew_6 rfl (by decide) rfl 7 rfl ?_
  exact g_sub C [1, 0] rfl (kX3_startAnew_L7 C hr (fun σ_7 h => by
      refine g_iconst C (v := 0) dX3_startAnew_26 (by decide) 27 rfl ?_
      obtain ⟨x1_8, ex1_8, h⟩ := o_lt h
      refine g_istore_n C (lv' := [(1, .int x1_8), (0, .ref (ad 47))]) ex1_8 dX3_startAnew_27 rfl (by decide) rfl 28 rfl ?_
      exact g_sub C [1, 0] rfl (kX3_startAnew_L28 C hr (fun σ_13 h => by
          refine g_iconst C (v := 0) dX3_startAnew_47 (by decide) 48 rfl ?_
          obtain ⟨x1_14, ex1_14, h⟩ := o_lt h
          refine g_istore_n C (lv' := [(1, .int x1_14), (0, .ref (ad 47))]) ex1_14 dX3_startAnew_48 rfl (by decide) rfl 49 rfl ?_
          exact g_sub C [1, 0] rfl (kX3_startAnew_L49 C hr  n x1_14 σ_13 h)) n x1_8 σ_7 h)) n x1_2 σ_1 h)
end WK
/-! X10_read public int read(); -/
def fX10_read (n : Nat)  (σ : ST) : Option (Int32 × ST) :=
  (Option.bind (fX7_scanTape n σ) (fun q_1 => (Option.bind (fX2_parseText n q_1) (fun q_2 => (lt (sI q_2 0 ((0 : Int32))) (fun σ_3 => (if (gI σ_3 2) = 0 then (Option.bind (fX4_copyOf σ_3) (fun q_5 => (Option.bind (fX9_startAnew n q_5) (fun q_6 => (Option.bind (fX3_startAnew n q_6) (fun q_7 => (some (gI q_7 2, q_7)))))))) else (some (gI σ_3 2, σ_3)))))))))
section WK
variable {p : Program} {l : Launch} {e : Env} {R : Room} {s : State} {m : MethodId} {args : Array Value} {below : List Frame} {meth : Method} {c : Code} {Q : State → Prop}
variable {D : va_G} {ad : Nat → Nat} {cI cJ cB cZ : ClassId} {A : Nat → Prop} {cc : ByteArray} {nL lev : Nat}
variable {σ : ST} {pc : Nat} {lv : List (Nat × Value)} {st : List Value}
set_option maxHeartbeats 4000000 in
set_option maxRecDepth 100000 in
theorem kX10_read {l : Launch} {D : va_G} {ad : Nat → Nat} {cI cJ cB cZ : ClassId}  {n : Nat}  {σ : ST} {res : Int32 × ST} (h : fX10_read n σ = some res) : CMi l D (tyz cI cJ cB cZ) (wX ad cI cJ cB cZ) 99 yX10_read cX10_read 1 (some .int) [.ref (ad 0)] σ res := by
  refine cmi_body (own := RX10) (lv := [(0, .ref (ad 0))]) (by decide) rfl (wX_addr _ _ _ _ _) (Nat.le_of_ble_eq_true rfl) rfl (fun p e s m args below meth c A C hr => ?_)
  unfold fX10_read at h
  refine g_aload_n C dX10_read_0 rfl 0 rfl 1 rfl ?_
  refine wgX10_21_0 C dX10_read_1 4 rfl ?_
  obtain ⟨q_1, hq_1, h⟩ := o_bind h
  refine wcX10_88_X_3 C (kX7_scanTape hq_1) (by decide) (Nat.le_of_ble_eq_true rfl) dX10_read_4 7 rfl ?_
  refine g_aload_n C dX10_read_7 rfl 0 rfl 8 rfl ?_
  refine wgX10_33_0 C dX10_read_8 11 rfl ?_
  obtain ⟨q_2, hq_2, h⟩ := o_bind h
  refine wcX10_91_X_7 C (kX2_parseText hq_2) (by decide) (Nat.le_of_ble_eq_true rfl) dX10_read_11 14 rfl ?_
  refine g_aload_n C dX10_read_14 rfl 0 rfl 15 rfl ?_
  refine wgX10_12_0 C dX10_read_15 18 rfl ?_
  refine g_iconst C (v := 0) dX10_read_18 (by decide) 19 rfl ?_
  obtain ⟨σ_3, eσ_3, h⟩ := o_lt h
  refine wpX10_80_1 C eσ_3 dX10_read_19 22 rfl ?_
  refine g_aload_n C dX10_read_22 rfl 0 rfl 23 rfl ?_
  refine wgX10_33_0 C dX10_read_23 26 rfl ?_
  refine wgX10_94_7 C dX10_read_26 29 rfl ?_
  refine g_if_ne C 60 dX10_read_29 (by decide) 32 rfl (fun c_4 => ?_) (fun c_4 => ?_)
  · have h := o_neg h c_4
    refine g_aload_n C dX10_read_60 rfl 0 rfl 61 rfl ?_
    refine wgX10_33_0 C dX10_read_61 64 rfl ?_
    refine wgX10_94_7 C dX10_read_64 67 rfl ?_
    exact g_iret C hr dX10_read_67 h
  · have h := o_pos h c_4
    refine g_aload_n C dX10_read_32 rfl 0 rfl 33 rfl ?_
    refine wgX10_37_0 C dX10_read_33 36 rfl ?_
    refine g_aload_n C dX10_read_36 rfl 0 rfl 37 rfl ?_
    refine wgX10_33_0 C dX10_read_37 40 rfl ?_
    refine wgX10_97_7 C dX10_read_40 43 rfl ?_
    obtain ⟨q_5, hq_5, h⟩ := o_bind h
    refine wcX10_100_X_19_8 C (kX4_copyOf hq_5) (by decide) (Nat.le_of_ble_eq_true rfl) dX10_read_43 46 rfl ?_
    refine g_aload_n C dX10_read_46 rfl 0 rfl 47 rfl ?_
    refine wgX10_67_0 C dX10_read_47 50 rfl ?_
    obtain ⟨q_6, hq_6, h⟩ := o_bind h
    refine wcX10_104_X_52 C (kX9_startAnew hq_6) (by decide) (Nat.le_of_ble_eq_true rfl) dX10_read_50 53 rfl ?_
    refine g_aload_n C dX10_read_53 rfl 0 rfl 54 rfl ?_
    refine wgX10_58_0 C dX10_read_54 57 rfl ?_
    obtain ⟨q_7, hq_7, h⟩ := o_bind h
    refine wcX10_107_X_47 C (kX3_startAnew hq_7) (by decide) (Nat.le_of_ble_eq_true rfl) dX10_read_57 60 rfl ?_
    refine g_aload_n C dX10_read_60 rfl 0 rfl 61 rfl ?_
    refine wgX10_33_0 C dX10_read_61 64 rfl ?_
    refine wgX10_94_7 C dX10_read_64 67 rfl ?_
    exact g_iret C hr dX10_read_67 h
end WK
/-! X10_place public int place(); -/
def fX10_place  (σ : ST) : Option (Int32 × ST) :=
  (some (gI σ 3, σ))
section WK
variable {p : Program} {l : Launch} {e : Env} {R : Room} {s : State} {m : MethodId} {args : Array Value} {below : List Frame} {meth : Method} {c : Code} {Q : State → Prop}
variable {D : va_G} {ad : Nat → Nat} {cI cJ cB cZ : ClassId} {A : Nat → Prop} {cc : ByteArray} {nL lev : Nat}
variable {σ : ST} {pc : Nat} {lv : List (Nat × Value)} {st : List Value}
set_option maxHeartbeats 4000000 in
set_option maxRecDepth 100000 in
theorem kX10_place {l : Launch} {D : va_G} {ad : Nat → Nat} {cI cJ cB cZ : ClassId}   {σ : ST} {res : Int32 × ST} (h : fX10_place σ = some res) : CMi l D (tyz cI cJ cB cZ) (wX ad cI cJ cB cZ) 0 yX10_place cX10_place 1 (some .int) [.ref (ad 0)] σ res := by
  refine cmi_body (own := RX10) (lv := [(0, .ref (ad 0))]) (by decide) rfl (wX_addr _ _ _ _ _) (Nat.le_of_ble_eq_true rfl) rfl (fun p e s m args below meth c A C hr => ?_)
  unfold fX10_place at h
  refine g_aload_n C dX10_place_0 rfl 0 rfl 1 rfl ?_
  refine wgX10_33_0 C dX10_place_1 4 rfl ?_
  refine wgX10_108_7 C dX10_place_4 7 rfl ?_
  exact g_iret C hr dX10_place_7 h
end WK
/-! X10_span public boolean span(int, int, int); -/
def fX10_span (x1 : Int32) (x2 : Int32) (x3 : Int32) (σ : ST) : Option (Int32 × ST) :=
  (Option.bind (fX10_isBelow x1 ((6 : Int32)) σ) (fun q_1 => (if q_1.1 = 0 then (some ((0 : Int32), q_1.2)) else (if x2 < 0 then (some ((0 : Int32), q_1.2)) else (if x3 < x2 then (some ((0 : Int32), q_1.2)) else (if x3 ≤ ((399 : Int32)) then (if ix x1 6 then (lt (stA q_1.2 34 x1 x2) (fun σ_7 => (if ix x1 6 then (lt (stA σ_7 35 x1 x3) (fun σ_9 => (some ((1 : Int32), σ_9)))) else none))) else none) else (some ((0 : Int32), q_1.2))))))))
section WK
variable {p : Program} {l : Launch} {e : Env} {R : Room} {s : State} {m : MethodId} {args : Array Value} {below : List Frame} {meth : Method} {c : Code} {Q : State → Prop}
variable {D : va_G} {ad : Nat → Nat} {cI cJ cB cZ : ClassId} {A : Nat → Prop} {cc : ByteArray} {nL lev : Nat}
variable {σ : ST} {pc : Nat} {lv : List (Nat × Value)} {st : List Value}
set_option maxHeartbeats 4000000 in
set_option maxRecDepth 100000 in
theorem kX10_span {l : Launch} {D : va_G} {ad : Nat → Nat} {cI cJ cB cZ : ClassId}  {x1 : Int32} {x2 : Int32} {x3 : Int32} {σ : ST} {res : Int32 × ST} (h : fX10_span x1 x2 x3 σ = some res) : CMi l D (tyz cI cJ cB cZ) (wX ad cI cJ cB cZ) 1 yX10_span cX10_span 4 (some .boolean) [.ref (ad 0), .int x1, .int x2, .int x3] σ res := by
  refine cmi_body (own := RX10) (lv := [(0, .ref (ad 0)), (1, .int x1), (2, .int x2), (3, .int x3)]) (by decide) rfl (wX_addr _ _ _ _ _) (Nat.le_of_ble_eq_true rfl) rfl (fun p e s m args below meth c A C hr => ?_)
  unfold fX10_span at h
  refine g_iload_n C dX10_span_0 rfl 1 rfl 1 rfl ?_
  refine g_bipush C (v := 6) dX10_span_1 (by decide) 3 rfl ?_
  obtain ⟨q_1, hq_1, h⟩ := o_bind h
  refine wcX10_111_X C (kX10_isBelow hq_1) (by decide) (Nat.le_of_ble_eq_true rfl) dX10_span_3 6 rfl ?_
  refine g_if_eq C 25 dX10_span_6 (by decide) 9 rfl (fun c_2 => ?_) (fun c_2 => ?_)
  · have h := o_pos h c_2
    refine g_iconst C (v := 0) dX10_span_25 (by decide) 26 rfl ?_
    exact g_zret C hr (by decide) dX10_span_26 h
  · have h := o_neg h c_2
    refine g_iload_n C dX10_span_9 rfl 2 rfl 10 rfl ?_
    refine g_if_lt C 25 dX10_span_10 (by decide) 13 rfl (fun c_3 => ?_) (fun c_3 => ?_)
    · have h := o_pos h c_3
      refine g_iconst C (v := 0) dX10_span_25 (by decide) 26 rfl ?_
      exact g_zret C hr (by decide) dX10_span_26 h
    · have h := o_neg h c_3
      refine g_iload_n C dX10_span_13 rfl 2 rfl 14 rfl ?_
      refine g_iload_n C dX10_span_14 rfl 3 rfl 15 rfl ?_
      refine g_icmp_gt C 25 dX10_span_15 (by decide) 18 rfl (fun c_4 => ?_) (fun c_4 => ?_)
      · have h := o_pos h c_4
        refine g_iconst C (v := 0) dX10_span_25 (by decide) 26 rfl ?_
        exact g_zret C hr (by decide) dX10_span_26 h
      · have h := o_neg h c_4
        refine g_iload_n C dX10_span_18 rfl 3 rfl 19 rfl ?_
        refine g_sipush C (v := 399) dX10_span_19 (by decide) 22 rfl ?_
        refine g_icmp_le C 27 dX10_span_22 (by decide) 25 rfl (fun c_5 => ?_) (fun c_5 => ?_)
        · have h := o_pos h c_5
          refine g_aload_n C dX10_span_27 rfl 0 rfl 28 rfl ?_
          refine wgX10_44_0 C dX10_span_28 31 rfl ?_
          refine wgX10_115_30 C dX10_span_31 34 rfl ?_
          refine g_iload_n C dX10_span_34 rfl 1 rfl 35 rfl ?_
          refine g_iload_n C dX10_span_35 rfl 2 rfl 36 rfl ?_
          obtain ⟨c_6, h⟩ := o_chk h
          obtain ⟨σ_7, eσ_7, h⟩ := o_lt h
          refine wtX_34 C eσ_7 c_6 dX10_span_36 37 rfl ?_
          refine g_aload_n C dX10_span_37 rfl 0 rfl 38 rfl ?_
          refine wgX10_44_0 C dX10_span_38 41 rfl ?_
          refine wgX10_119_30 C dX10_span_41 44 rfl ?_
          refine g_iload_n C dX10_span_44 rfl 1 rfl 45 rfl ?_
          refine g_iload_n C dX10_span_45 rfl 3 rfl 46 rfl ?_
          obtain ⟨c_8, h⟩ := o_chk h
          obtain ⟨σ_9, eσ_9, h⟩ := o_lt h
          refine wtX_35 C eσ_9 c_8 dX10_span_46 47 rfl ?_
          refine g_iconst C (v := 1) dX10_span_47 (by decide) 48 rfl ?_
          exact g_zret C hr (by decide) dX10_span_48 h
        · have h := o_neg h c_5
          refine g_iconst C (v := 0) dX10_span_25 (by decide) 26 rfl ?_
          exact g_zret C hr (by decide) dX10_span_26 h
end WK
/-! X0_add void add(int, int, int); -/
def fX0_add (x1 : Int32) (x2 : Int32) (x3 : Int32) (σ : ST) : Option (ST) :=
  (Option.bind (fX10_isBelow x1 ((6 : Int32)) σ) (fun q_1 => (if q_1.1 = 0 then (some q_1.2) else (Option.bind (fX10_isBelow x2 ((8 : Int32)) q_1.2) (fun q_3 => (if q_3.1 = 0 then (some q_3.2) else (lt ((x1 * ((8 : Int32))) + x2) (fun x4_5 => (if ix x4_5 48 then (if ix x4_5 48 then (lt (stB q_3.2 41 x4_5 ((ldB q_3.2 41 x4_5) + x3.toInt64)) (fun σ_8 => (if ix x4_5 48 then (lt (fun (x4_10 : Int32) (v_11 : Int64) (v_12 : Int32) (σ_13 : ST) => (if ix v_12 48 then (lt (stB σ_13 43 v_12 v_11) (fun σ_15 => (if ix x4_10 48 then (if ix x4_10 48 then (lt (stB σ_15 42 x4_10 ((ldB σ_15 42 x4_10) + ((1 : Int64)))) (fun σ_18 => (some σ_18))) else none) else none))) else none)) (fun j73 => (if (lg_cmp (ldB σ_8 42 x4_5) ((0 : Int64))) = 0 then (j73 x4_5 x3.toInt64 x4_5 σ_8) else (if ix x4_5 48 then (j73 x4_5 (if x3.toInt64 < (ldB σ_8 43 x4_5) then (ldB σ_8 43 x4_5) else x3.toInt64) x4_5 σ_8) else none)))) else none))) else none) else none)))))))))
section WK
variable {p : Program} {l : Launch} {e : Env} {R : Room} {s : State} {m : MethodId} {args : Array Value} {below : List Frame} {meth : Method} {c : Code} {Q : State → Prop}
variable {D : va_G} {ad : Nat → Nat} {cI cJ cB cZ : ClassId} {A : Nat → Prop} {cc : ByteArray} {nL lev : Nat}
variable {σ : ST} {pc : Nat} {lv : List (Nat × Value)} {st : List Value}
set_option maxHeartbeats 4000000 in
set_option maxRecDepth 100000 in
theorem kX0_add {l : Launch} {D : va_G} {ad : Nat → Nat} {cI cJ cB cZ : ClassId}  {x1 : Int32} {x2 : Int32} {x3 : Int32} {σ : ST} {res : ST} (h : fX0_add x1 x2 x3 σ = some res) : CMv l D (tyz cI cJ cB cZ) (wX ad cI cJ cB cZ) 1 yX0_add cX0_add 5 none [.ref (ad 40), .int x1, .int x2, .int x3] σ res := by
  refine cmv_body (own := RX0) (lv := [(0, .ref (ad 40)), (1, .int x1), (2, .int x2), (3, .int x3)]) (by decide) rfl (wX_addr _ _ _ _ _) (Nat.le_of_ble_eq_true rfl) rfl (fun p e s m args below meth c A C hr => ?_)
  unfold fX0_add at h
  refine g_iload_n C dX0_add_0 rfl 1 rfl 1 rfl ?_
  refine g_bipush C (v := 6) dX0_add_1 (by decide) 3 rfl ?_
  obtain ⟨q_1, hq_1, h⟩ := o_bind h
  refine wcX0_21_X C (kX10_isBelow hq_1) (by decide) (Nat.le_of_ble_eq_true rfl) dX0_add_3 6 rfl ?_
  refine g_if_eq C 85 dX0_add_6 (by decide) 9 rfl (fun c_2 => ?_) (fun c_2 => ?_)
  · have h := o_pos h c_2
    exact g_vret C hr dX0_add_85 h
  · have h := o_neg h c_2
    refine g_iload_n C dX0_add_9 rfl 2 rfl 10 rfl ?_
    refine g_bipush C (v := 8) dX0_add_10 (by decide) 12 rfl ?_
    obtain ⟨q_3, hq_3, h⟩ := o_bind h
    refine wcX0_21_X C (kX10_isBelow hq_3) (by decide) (Nat.le_of_ble_eq_true rfl) dX0_add_12 15 rfl ?_
    refine g_if_eq C 85 dX0_add_15 (by decide) 18 rfl (fun c_4 => ?_) (fun c_4 => ?_)
    · have h := o_pos h c_4
      exact g_vret C hr dX0_add_85 h
    · have h := o_neg h c_4
      refine g_iload_n C dX0_add_18 rfl 1 rfl 19 rfl ?_
      refine g_bipush C (v := 8) dX0_add_19 (by decide) 21 rfl ?_
      refine g_imul C dX0_add_21 22 rfl ?_
      refine g_iload_n C dX0_add_22 rfl 2 rfl 23 rfl ?_
      refine g_iadd C dX0_add_23 24 rfl ?_
      obtain ⟨x4_5, ex4_5, h⟩ := o_lt h
      refine g_istore C (lv' := [(4, .int x4_5), (0, .ref (ad 40)), (1, .int x1), (2, .int x2), (3, .int x3)]) ex4_5 dX0_add_24 (by decide) rfl 26 rfl ?_
      refine g_aload_n C dX0_add_26 rfl 1 rfl 27 rfl ?_
      refine wgX0_9_40 C dX0_add_27 30 rfl ?_
      refine g_iload C dX0_add_30 0 rfl 32 rfl ?_
      refine g_dup2 C dX0_add_32 rfl rfl 33 rfl ?_
      obtain ⟨c_6, h⟩ := o_chk h
      refine wlX_41 C c_6 dX0_add_33 34 rfl ?_
      refine g_iload_n C dX0_add_34 rfl 4 rfl 35 rfl ?_
      refine g_i2l C dX0_add_35 36 rfl ?_
      refine g_ladd C dX0_add_36 37 rfl ?_
      obtain ⟨c_7, h⟩ := o_chk h
      obtain ⟨σ_8, eσ_8, h⟩ := o_lt h
      refine wtX_41 C eσ_8 c_7 dX0_add_37 38 rfl ?_
      refine g_aload_n C dX0_add_38 rfl 1 rfl 39 rfl ?_
      refine wgX0_18_40 C dX0_add_39 42 rfl ?_
      refine g_iload C dX0_add_42 0 rfl 44 rfl ?_
      refine g_aload_n C dX0_add_44 rfl 1 rfl 45 rfl ?_
      refine wgX0_15_40 C dX0_add_45 48 rfl ?_
      refine g_iload C dX0_add_48 0 rfl 50 rfl ?_
      obtain ⟨c_9, h⟩ := o_chk h
      refine wlX_42 C c_9 dX0_add_50 51 rfl ?_
      refine g_lconst C (v := 0) dX0_add_51 (by decide) 52 rfl ?_
      refine g_lcmp C dX0_add_52 53 rfl ?_
      obtain ⟨j73, ej73, h⟩ := o_lt h
      have hj73 : ∀ (x4_10 : Int32) (v_11 : Int64) (v_12 : Int32) (σ_13 : ST), j73 x4_10 v_11 v_12 σ_13 = some res → G p l e (rmL 1) s m args below meth c (MQ below (Qv D (tyz cI cJ cB cZ) (wX ad cI cJ cB cZ) A res) args s 0 0 A) D (wX ad cI cJ cB cZ) A 5 σ_13 73 [(0, .ref (ad 40)), (4, .int x4_10)] [.long v_11, .int v_12, .ref (ad 43)] := by
        intro x4_10 v_11 v_12 σ_13 h
        rw [ej73] at h
        obtain ⟨c_14, h⟩ := o_chk h
        obtain ⟨σ_15, eσ_15, h⟩ := o_lt h
        refine wtX_43 C eσ_15 c_14 dX0_add_73 74 rfl ?_
        refine g_aload_n C dX0_add_74 rfl 0 rfl 75 rfl ?_
        refine wgX0_15_40 C dX0_add_75 78 rfl ?_
        refine g_iload C dX0_add_78 1 rfl 80 rfl ?_
        refine g_dup2 C dX0_add_80 rfl rfl 81 rfl ?_
        obtain ⟨c_16, h⟩ := o_chk h
        refine wlX_42 C c_16 dX0_add_81 82 rfl ?_
        refine g_lconst C (v := 1) dX0_add_82 (by decide) 83 rfl ?_
        refine g_ladd C dX0_add_83 84 rfl ?_
        obtain ⟨c_17, h⟩ := o_chk h
        obtain ⟨σ_18, eσ_18, h⟩ := o_lt h
        refine wtX_42 C eσ_18 c_17 dX0_add_84 85 rfl ?_
        exact g_vret C hr dX0_add_85 h
      refine g_if_ne C 61 dX0_add_53 (by decide) 56 rfl (fun c_19 => ?_) (fun c_19 => ?_)
      · have h := o_neg h c_19
        refine g_aload_n C dX0_add_61 rfl 1 rfl 62 rfl ?_
        refine wgX0_18_40 C dX0_add_62 65 rfl ?_
        refine g_iload C dX0_add_65 0 rfl 67 rfl ?_
        obtain ⟨c_20, h⟩ := o_chk h
        refine wlX_43 C c_20 dX0_add_67 68 rfl ?_
        refine g_iload_n C dX0_add_68 rfl 4 rfl 69 rfl ?_
        refine g_i2l C dX0_add_69 70 rfl ?_
        refine g_maxl C (inr_24 _ (List.mem_of_getElem? (i := 2) rfl)) (inr_24 _ (List.mem_of_getElem? (i := 3) rfl)) (inr_24 _ (List.mem_of_getElem? (i := 4) rfl)) (inr_24 _ (List.mem_of_getElem? (i := 5) rfl)) (by decide) (Nat.le_of_ble_eq_true rfl) dX0_add_70 73 rfl ?_
        exact g_sub C [1, 0] rfl (hj73 x4_5 (if x3.toInt64 < (ldB σ_8 43 x4_5) then (ldB σ_8 43 x4_5) else x3.toInt64) x4_5 σ_8 h)
      · have h := o_pos h c_19
        refine g_iload_n C dX0_add_56 rfl 4 rfl 57 rfl ?_
        refine g_i2l C dX0_add_57 58 rfl ?_
        refine g_goto C 73 dX0_add_58 (by decide) ?_
        exact g_sub C [1, 0] rfl (hj73 x4_5 x3.toInt64 x4_5 σ_8 h)
end WK
