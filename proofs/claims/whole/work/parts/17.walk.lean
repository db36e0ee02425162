/-! X1_findBest int findBest(); -/
def fX1_findBest_L22 (k82 : Int32 → ST → Option (Int32 × ST)) : Nat → Int32 → Int32 → Int32 → ST → Option (Int32 × ST)
  | 0, _, _, _, _ => none
  | n + 1, x1, x2, x3, σ => (if ((5040 : Int32)) ≤ x3 then (k82 x1 σ) else (if x2 = 0 then (k82 x1 σ) else (Option.bind (fX1_runAhead n x1 σ) (fun q_8 => (lt (fun (x1_9 : Int32) (x3_10 : Int32) (σ_11 : ST) => (if x1_9 ≤ (gI σ_11 25) then (lt ((0 : Int32)) (fun x2_13 => (lt (x3_10 + 1) (fun x3_14 => (fX1_findBest_L22 k82 n x1_9 x2_13 x3_14 σ_11))))) else (Option.bind (fX1_nextQueue n σ_11) (fun q_15 => (if q_15.1 = 0 then (lt ((0 : Int32)) (fun x2_17 => (lt (x3_10 + 1) (fun x3_18 => (fX1_findBest_L22 k82 n x1_9 x2_17 x3_18 q_15.2))))) else (lt ((1 : Int32)) (fun x2_19 => (lt (x3_10 + 1) (fun x3_20 => (fX1_findBest_L22 k82 n x1_9 x2_19 x3_20 q_15.2)))))))))) (fun j55 => (if x1 ≤ (gI q_8 26) then (j55 x1 x3 q_8) else (lt (gI q_8 26) (fun x1_22 => (Option.bind (fX1_keepBest q_8) (fun q_23 => (j55 x1_22 x3 q_23))))))))))))
def fX1_findBest (n : Nat)  (σ : ST) : Option (Int32 × ST) :=
  (Option.bind (fX1_reckonSoonest_35 n σ) (fun q_1 => (Option.bind (fX1_queueByNumbers n q_1) (fun q_2 => (lt ((280001 : Int32)) (fun x1_3 => (lt ((1 : Int32)) (fun x2_4 => (lt ((0 : Int32)) (fun x3_5 => (fX1_findBest_L22 (fun (x1_24 : Int32) (σ_25 : ST) => (Option.bind (fX1_orderByBest n σ_25) (fun q_26 => (some (x1_24, q_26))))) n x1_3 x2_4 x3_5 q_2)))))))))))
section WK
variable {p : Program} {l : Launch} {e : Env} {R : Room} {s : State} {m : MethodId} {args : Array Value} {below : List Frame} {meth : Method} {c : Code} {Q : State → Prop}
variable {D : va_G} {ad : Nat → Nat} {cI cJ cB cZ : ClassId} {A : Nat → Prop} {cc : ByteArray} {nL lev : Nat}
variable {σ : ST} {pc : Nat} {lv : List (Nat × Value)} {st : List Value}
set_option maxHeartbeats 4000000 in
set_option maxRecDepth 100000 in
theorem kX1_findBest_L22 (C : Ctx p l e (rmL 5) s m args below meth c D (tyz cI cJ cB cZ) (wX ad cI cJ cB cZ) A cX1_findBest 4 5 RX1) (hr : meth.sig.returnType = some .int) {res : Int32 × ST} {k82 : Int32 → ST → Option (Int32 × ST)} (hk82 : ∀ (x1 : Int32) (σ : ST), k82 x1 σ = some res → G p l e (rmL 5) s m args below meth c (MQ below (Qi D (tyz cI cJ cB cZ) (wX ad cI cJ cB cZ) A res) args s 0 0 A) D (wX ad cI cJ cB cZ) A 4 σ 82 [(0, .ref (ad 58)), (1, .int x1)] []) : ∀ (n : Nat) (x1 : Int32) (x2 : Int32) (x3 : Int32) (σ : ST), fX1_findBest_L22 k82 n x1 x2 x3 σ = some res → G p l e (rmL 5) s m args below meth c (MQ below (Qi D (tyz cI cJ cB cZ) (wX ad cI cJ cB cZ) A res) args s 0 0 A) D (wX ad cI cJ cB cZ) A 4 σ 22 [(0, .ref (ad 58)), (1, .int x1), (2, .int x2), (3, .int x3)] [] := by
  intro n
  induction n with
  | zero => intro x1 x2 x3 σ h; have h : none = some res := h; cases h
  | succ n ih =>
    intro x1 x2 x3 σ h
    rw [fX1_findBest_L22] at h
    refine g_iload_n C dX1_findBest_22 rfl 3 rfl 23 rfl ?_
    refine g_sipush C (v := 5040) dX1_findBest_23 (by decide) 26 rfl ?_
    refine g_icmp_ge C 82 dX1_findBest_26 (by decide) 29 rfl (fun c_6 => ?_) (fun c_6 => ?_)
    · have h := o_pos h c_6
      exact g_sub C [0, 1] rfl (hk82 x1 σ h)
    · have h := o_neg h c_6
      refine g_iload_n C dX1_findBest_29 rfl 2 rfl 30 rfl ?_
      refine g_if_eq C 82 dX1_findBest_30 (by decide) 33 rfl (fun c_7 => ?_) (fun c_7 => ?_)
      · have h := o_pos h c_7
        exact g_sub C [0, 1] rfl (hk82 x1 σ h)
      · have h := o_neg h c_7
        refine g_aload_n C dX1_findBest_33 rfl 0 rfl 34 rfl ?_
        refine g_iload_n C dX1_findBest_34 rfl 1 rfl 35 rfl ?_
        obtain ⟨q_8, hq_8, h⟩ := o_bind h
        refine wcX1_67_X_58 C (kX1_runAhead hq_8) (by decide) (Nat.le_of_ble_eq_true rfl) dX1_findBest_35 38 rfl ?_
        refine g_aload_n C dX1_findBest_38 rfl 0 rfl 39 rfl ?_
        refine wgX1_74_58 C dX1_findBest_39 42 rfl ?_
        refine g_iload_n C dX1_findBest_42 rfl 1 rfl 43 rfl ?_
        obtain ⟨j55, ej55, h⟩ := o_lt h
        have hj55 : ∀ (x1_9 : Int32) (x3_10 : Int32) (σ_11 : ST), j55 x1_9 x3_10 σ_11 = some res → G p l e (rmL 5) s m args below meth c (MQ below (Qi D (tyz cI cJ cB cZ) (wX ad cI cJ cB cZ) A res) args s 0 0 A) D (wX ad cI cJ cB cZ) A 4 σ_11 55 [(0, .ref (ad 58)), (1, .int x1_9), (3, .int x3_10)] [] := by
          intro x1_9 x3_10 σ_11 h
          rw [ej55] at h
          refine g_iload_n C dX1_findBest_55 rfl 1 rfl 56 rfl ?_
          refine g_aload_n C dX1_findBest_56 rfl 0 rfl 57 rfl ?_
          refine wgX1_81_58 C dX1_findBest_57 60 rfl ?_
          refine g_icmp_le C 74 dX1_findBest_60 (by decide) 63 rfl (fun c_12 => ?_) (fun c_12 => ?_)
          · have h := o_pos h c_12
            refine g_iconst C (v := 0) dX1_findBest_74 (by decide) 75 rfl ?_
            obtain ⟨x2_13, ex2_13, h⟩ := o_lt h
            refine g_istore_n C (lv' := [(2, .int x2_13), (0, .ref (ad 58)), (1, .int x1_9), (3, .int x3_10)]) ex2_13 dX1_findBest_75 rfl (by decide) rfl 76 rfl ?_
            obtain ⟨x3_14, ex3_14, h⟩ := o_lt h
            refine g_iinc C (lv' := [(3, .int x3_14), (2, .int x2_13), (0, .ref (ad 58)), (1, .int x1_9)]) ex3_14 dX1_findBest_76 3 rfl (by decide) (by decide) rfl 79 rfl ?_
            refine g_goto C 22 dX1_findBest_79 (by decide) ?_
            exact g_sub C [2, 3, 1, 0] rfl (ih x1_9 x2_13 x3_14 σ_11 h)
          · have h := o_neg h c_12
            refine g_aload_n C dX1_findBest_63 rfl 0 rfl 64 rfl ?_
            obtain ⟨q_15, hq_15, h⟩ := o_bind h
            refine wcX1_84_X_58 C (kX1_nextQueue hq_15) (by decide) (Nat.le_of_ble_eq_true rfl) dX1_findBest_64 67 rfl ?_
            refine g_if_eq C 74 dX1_findBest_67 (by decide) 70 rfl (fun c_16 => ?_) (fun c_16 => ?_)
            · have h := o_pos h c_16
              refine g_iconst C (v := 0) dX1_findBest_74 (by decide) 75 rfl ?_
              obtain ⟨x2_17, ex2_17, h⟩ := o_lt h
              refine g_istore_n C (lv' := [(2, .int x2_17), (0, .ref (ad 58)), (1, .int x1_9), (3, .int x3_10)]) ex2_17 dX1_findBest_75 rfl (by decide) rfl 76 rfl ?_
              obtain ⟨x3_18, ex3_18, h⟩ := o_lt h
              refine g_iinc C (lv' := [(3, .int x3_18), (2, .int x2_17), (0, .ref (ad 58)), (1, .int x1_9)]) ex3_18 dX1_findBest_76 3 rfl (by decide) (by decide) rfl 79 rfl ?_
              refine g_goto C 22 dX1_findBest_79 (by decide) ?_
              exact g_sub C [2, 3, 1, 0] rfl (ih x1_9 x2_17 x3_18 q_15.2 h)
            · have h := o_neg h c_16
              refine g_iconst C (v := 1) dX1_findBest_70 (by decide) 71 rfl ?_
              refine g_goto C 75 dX1_findBest_71 (by decide) ?_
              obtain ⟨x2_19, ex2_19, h⟩ := o_lt h
              refine g_istore_n C (lv' := [(2, .int x2_19), (0, .ref (ad 58)), (1, .int x1_9), (3, .int x3_10)]) ex2_19 dX1_findBest_75 rfl (by decide) rfl 76 rfl ?_
              obtain ⟨x3_20, ex3_20, h⟩ := o_lt h
              refine g_iinc C (lv' := [(3, .int x3_20), (2, .int x2_19), (0, .ref (ad 58)), (1, .int x1_9)]) ex3_20 dX1_findBest_76 3 rfl (by decide) (by decide) rfl 79 rfl ?_
              refine g_goto C 22 dX1_findBest_79 (by decide) ?_
              exact g_sub C [2, 3, 1, 0] rfl (ih x1_9 x2_19 x3_20 q_15.2 h)
        refine g_icmp_ge C 55 dX1_findBest_43 (by decide) 46 rfl (fun c_21 => ?_) (fun c_21 => ?_)
        · have h := o_pos h c_21
          exact g_sub C [0, 1, 3] rfl (hj55 x1 x3 q_8 h)
        · have h := o_neg h c_21
          refine g_aload_n C dX1_findBest_46 rfl 0 rfl 47 rfl ?_
          refine wgX1_74_58 C dX1_findBest_47 50 rfl ?_
          obtain ⟨x1_22, ex1_22, h⟩ := o_lt h
          refine g_istore_n C (lv' := [(1, .int x1_22), (0, .ref (ad 58)), (2, .int x2), (3, .int x3)]) ex1_22 dX1_findBest_50 rfl (by decide) rfl 51 rfl ?_
          refine g_aload_n C dX1_findBest_51 rfl 1 rfl 52 rfl ?_
          obtain ⟨q_23, hq_23, h⟩ := o_bind h
          refine wcX1_78_X_58 C (kX1_keepBest hq_23) (by decide) (Nat.le_of_ble_eq_true rfl) dX1_findBest_52 55 rfl ?_
          exact g_sub C [1, 0, 3] rfl (hj55 x1_22 x3 q_23 h)
set_option maxHeartbeats 4000000 in
set_option maxRecDepth 100000 in
theorem kX1_findBest {l : Launch} {D : va_G} {ad : Nat → Nat} {cI cJ cB cZ : ClassId}  {n : Nat}  {σ : ST} {res : Int32 × ST} (h : fX1_findBest n σ = some res) : CMi l D (tyz cI cJ cB cZ) (wX ad cI cJ cB cZ) 5 yX1_findBest cX1_findBest 4 (some .int) [.ref (ad 58)] σ res := by
  refine cmi_body (own := RX1) (lv := [(0, .ref (ad 58))]) (by decide) rfl (wX_addr _ _ _ _ _) (Nat.le_of_ble_eq_true rfl) rfl (fun p e s m args below meth c A C hr => ?_)
  unfold fX1_findBest at h
  refine g_aload_n C dX1_findBest_0 rfl 0 rfl 1 rfl ?_
  refine g_aload_n C dX1_findBest_1 rfl 0 rfl 2 rfl ?_
  refine wgX1_34_58 C dX1_findBest_2 5 rfl ?_
  refine wgX1_55_30 C dX1_findBest_5 8 rfl ?_
  obtain ⟨q_1, hq_1, h⟩ := o_bind h
  refine wcX1_47_X_58_35 C (kX1_reckonSoonest_35 hq_1) (by decide) (Nat.le_of_ble_eq_true rfl) dX1_findBest_8 11 rfl ?_
  refine g_aload_n C dX1_findBest_11 rfl 0 rfl 12 rfl ?_
  obtain ⟨q_2, hq_2, h⟩ := o_bind h
  refine wcX1_71_X_58 C (kX1_queueByNumbers hq_2) (by decide) (Nat.le_of_ble_eq_true rfl) dX1_findBest_12 15 rfl ?_
  refine g_ldc C (inr_34 _ (List.mem_of_getElem? (i := 15) rfl)) dX1_findBest_15 17 rfl ?_
  obtain ⟨x1_3, ex1_3, h⟩ := o_lt h
  refine g_istore_n C (lv' := [(1, .int x1_3), (0, .ref (ad 58))]) ex1_3 dX1_findBest_17 rfl (by decide) rfl 18 rfl ?_
  refine g_iconst C (v := 1) dX1_findBest_18 (by decide) 19 rfl ?_
  obtain ⟨x2_4, ex2_4, h⟩ := o_lt h
  refine g_istore_n C (lv' := [(2, .int x2_4), (1, .int x1_3), (0, .ref (ad 58))]) ex2_4 dX1_findBest_19 rfl (by decide) rfl 20 rfl ?_
  refine g_iconst C (v := 0) dX1_findBest_20 (by decide) 21 rfl ?_
  obtain ⟨x3_5, ex3_5, h⟩ := o_lt h
  refine g_istore_n C (lv' := [(3, .int x3_5), (2, .int x2_4), (1, .int x1_3), (0, .ref (ad 58))]) ex3_5 dX1_findBest_21 rfl (by decide) rfl 22 rfl ?_
  exact g_sub C [3, 2, 1, 0] rfl (kX1_findBest_L22 C hr (fun x1_24 σ_25 h => by
      refine g_aload_n C dX1_findBest_82 rfl 0 rfl 83 rfl ?_
      obtain ⟨q_26, hq_26, h⟩ := o_bind h
      refine wcX1_88_X_58 C (kX1_orderByBest hq_26) (by decide) (Nat.le_of_ble_eq_true rfl) dX1_findBest_83 86 rfl ?_
      refine g_iload_n C dX1_findBest_86 rfl 1 rfl 87 rfl ?_
      exact g_iret C hr dX1_findBest_87 h) n x1_3 x2_4 x3_5 q_2 h)
end WK
/-! X10_plan public int plan(); -/
def fX10_plan (n : Nat)  (σ : ST) : Option (Int32 × ST) :=
  (Option.bind (fX1_findBest n σ) (fun q_1 => (some (q_1.1, q_1.2))))
section WK
variable {p : Program} {l : Launch} {e : Env} {R : Room} {s : State} {m : MethodId} {args : Array Value} {below : List Frame} {meth : Method} {c : Code} {Q : State → Prop}
variable {D : va_G} {ad : Nat → Nat} {cI cJ cB cZ : ClassId} {A : Nat → Prop} {cc : ByteArray} {nL lev : Nat}
variable {σ : ST} {pc : Nat} {lv : List (Nat × Value)} {st : List Value}
set_option maxHeartbeats 4000000 in
set_option maxRecDepth 100000 in
theorem kX10_plan {l : Launch} {D : va_G} {ad : Nat → Nat} {cI cJ cB cZ : ClassId}  {n : Nat}  {σ : ST} {res : Int32 × ST} (h : fX10_plan n σ = some res) : CMi l D (tyz cI cJ cB cZ) (wX ad cI cJ cB cZ) 6 yX10_plan cX10_plan 1 (some .int) [.ref (ad 0)] σ res := by
  refine cmi_body (own := RX10) (lv := [(0, .ref (ad 0))]) (by decide) rfl (wX_addr _ _ _ _ _) (Nat.le_of_ble_eq_true rfl) rfl (fun p e s m args below meth c A C hr => ?_)
  unfold fX10_plan at h
  refine g_aload_n C dX10_plan_0 rfl 0 rfl 1 rfl ?_
  refine wgX10_76_0 C dX10_plan_1 4 rfl ?_
  obtain ⟨q_1, hq_1, h⟩ := o_bind h
  refine wcX10_183_X_58 C (kX1_findBest hq_1) (by decide) (Nat.le_of_ble_eq_true rfl) dX10_plan_4 7 rfl ?_
  exact g_iret C hr dX10_plan_7 h
end WK
/-! X10_order public int order(int); -/
def fX10_order (x1 : Int32) (σ : ST) : Option (Int32 × ST) :=
  (Option.bind (fX4_hasStep x1 σ) (fun q_1 => (if q_1.1 = 0 then (some ((-1 : Int32), q_1.2)) else (if ix x1 7 then (some (ldA q_1.2 54 x1, q_1.2)) else none))))
section WK
variable {p : Program} {l : Launch} {e : Env} {R : Room} {s : State} {m : MethodId} {args : Array Value} {below : List Frame} {meth : Method} {c : Code} {Q : State → Prop}
variable {D : va_G} {ad : Nat → Nat} {cI cJ cB cZ : ClassId} {A : Nat → Prop} {cc : ByteArray} {nL lev : Nat}
variable {σ : ST} {pc : Nat} {lv : List (Nat × Value)} {st : List Value}
set_option maxHeartbeats 4000000 in
set_option maxRecDepth 100000 in
theorem kX10_order {l : Launch} {D : va_G} {ad : Nat → Nat} {cI cJ cB cZ : ClassId}  {x1 : Int32} {σ : ST} {res : Int32 × ST} (h : fX10_order x1 σ = some res) : CMi l D (tyz cI cJ cB cZ) (wX ad cI cJ cB cZ) 1 yX10_order cX10_order 2 (some .int) [.ref (ad 0), .int x1] σ res := by
  refine cmi_body (own := RX10) (lv := [(0, .ref (ad 0)), (1, .int x1)]) (by decide) rfl (wX_addr _ _ _ _ _) (Nat.le_of_ble_eq_true rfl) rfl (fun p e s m args below meth c A C hr => ?_)
  unfold fX10_order at h
  refine g_aload_n C dX10_order_0 rfl 0 rfl 1 rfl ?_
  refine wgX10_37_0 C dX10_order_1 4 rfl ?_
  refine g_iload_n C dX10_order_4 rfl 1 rfl 5 rfl ?_
  obtain ⟨q_1, hq_1, h⟩ := o_bind h
  refine wcX10_187_X_19 C (kX4_hasStep hq_1) (by decide) (Nat.le_of_ble_eq_true rfl) dX10_order_5 8 rfl ?_
  refine g_if_eq C 23 dX10_order_8 (by decide) 11 rfl (fun c_2 => ?_) (fun c_2 => ?_)
  · have h := o_pos h c_2
    refine g_iconst C (v := -1) dX10_order_23 (by decide) 24 rfl ?_
    exact g_iret C hr dX10_order_24 h
  · have h := o_neg h c_2
    refine g_aload_n C dX10_order_11 rfl 0 rfl 12 rfl ?_
    refine wgX10_67_0 C dX10_order_12 15 rfl ?_
    refine wgX10_190_52 C dX10_order_15 18 rfl ?_
    refine g_iload_n C dX10_order_18 rfl 1 rfl 19 rfl ?_
    obtain ⟨c_3, h⟩ := o_chk h
    refine wlX_54 C c_3 dX10_order_19 20 rfl ?_
    refine g_goto C 24 dX10_order_20 (by decide) ?_
    exact g_iret C hr dX10_order_24 h
end WK
/-! X1_fillQueue private void fillQueue(int[]); -/
def fX1_fillQueue_L7  : Nat → Int32 → ST → Option (ST)
  | 0, _, _ => none
  | n + 1, x2, σ => (if (gI σ 10) ≤ x2 then (some σ) else (if ix x2 7 then (Option.bind (fX1_enqueue (ldA σ 54 x2) σ) (fun q_5 => (lt (x2 + 1) (fun x2_6 => (fX1_fillQueue_L7 n x2_6 q_5))))) else none))
def fX1_fillQueue (n : Nat)  (σ : ST) : Option (ST) :=
  (lt (sI σ 22 ((0 : Int32))) (fun σ_1 => (lt ((0 : Int32)) (fun x2_2 => (fX1_fillQueue_L7 n x2_2 σ_1)))))
section WK
variable {p : Program} {l : Launch} {e : Env} {R : Room} {s : State} {m : MethodId} {args : Array Value} {below : List Frame} {meth : Method} {c : Code} {Q : State → Prop}
variable {D : va_G} {ad : Nat → Nat} {cI cJ cB cZ : ClassId} {A : Nat → Prop} {cc : ByteArray} {nL lev : Nat}
variable {σ : ST} {pc : Nat} {lv : List (Nat × Value)} {st : List Value}
set_option maxHeartbeats 4000000 in
set_option maxRecDepth 100000 in
theorem kX1_fillQueue_L7 (C : Ctx p l e (rmL 3) s m args below meth c D (tyz cI cJ cB cZ) (wX ad cI cJ cB cZ) A cX1_fillQueue 3 3 RX1) (hr : meth.sig.returnType = none) {res : ST}   : ∀ (n : Nat) (x2 : Int32) (σ : ST), fX1_fillQueue_L7 n x2 σ = some res → G p l e (rmL 3) s m args below meth c (MQ below (Qv D (tyz cI cJ cB cZ) (wX ad cI cJ cB cZ) A res) args s 0 0 A) D (wX ad cI cJ cB cZ) A 3 σ 7 [(0, .ref (ad 58)), (1, .ref (ad 54)), (2, .int x2)] [] := by
  intro n
  induction n with
  | zero => intro x2 σ h; have h : none = some res := h; cases h
  | succ n ih =>
    intro x2 σ h
    rw [fX1_fillQueue_L7] at h
    refine g_iload_n C dX1_fillQueue_7 rfl 2 rfl 8 rfl ?_
    refine g_aload_n C dX1_fillQueue_8 rfl 0 rfl 9 rfl ?_
    refine wgX1_30_58 C dX1_fillQueue_9 12 rfl ?_
    refine wgX1_91_19 C dX1_fillQueue_12 15 rfl ?_
    refine g_icmp_ge C 31 dX1_fillQueue_15 (by decide) 18 rfl (fun c_3 => ?_) (fun c_3 => ?_)
    · have h := o_pos h c_3
      exact g_vret C hr dX1_fillQueue_31 h
    · have h := o_neg h c_3
      refine g_aload_n C dX1_fillQueue_18 rfl 0 rfl 19 rfl ?_
      refine g_aload_n C dX1_fillQueue_19 rfl 1 rfl 20 rfl ?_
      refine g_iload_n C dX1_fillQueue_20 rfl 2 rfl 21 rfl ?_
      obtain ⟨c_4, h⟩ := o_chk h
      refine wlX_54 C c_4 dX1_fillQueue_21 22 rfl ?_
      obtain ⟨q_5, hq_5, h⟩ := o_bind h
      refine wcX1_147_X_58 C (kX1_enqueue hq_5) (by decide) (Nat.le_of_ble_eq_true rfl) dX1_fillQueue_22 25 rfl ?_
      obtain ⟨x2_6, ex2_6, h⟩ := o_lt h
      refine g_iinc C (lv' := [(2, .int x2_6), (0, .ref (ad 58)), (1, .ref (ad 54))]) ex2_6 dX1_fillQueue_25 2 rfl (by decide) (by decide) rfl 28 rfl ?_
      refine g_goto C 7 dX1_fillQueue_28 (by decide) ?_
      exact g_sub C [1, 2, 0] rfl (ih x2_6 q_5 h)
set_option maxHeartbeats 4000000 in
set_option maxRecDepth 100000 in
theorem kX1_fillQueue {l : Launch} {D : va_G} {ad : Nat → Nat} {cI cJ cB cZ : ClassId}  {n : Nat}  {σ : ST} {res : ST} (h : fX1_fillQueue n σ = some res) : CMv l D (tyz cI cJ cB cZ) (wX ad cI cJ cB cZ) 3 yX1_fillQueue cX1_fillQueue 3 none [.ref (ad 58), .ref (ad 54)] σ res := by
  refine cmv_body (own := RX1) (lv := [(0, .ref (ad 58)), (1, .ref (ad 54))]) (by decide) rfl (wX_addr _ _ _ _ _) (Nat.le_of_ble_eq_true rfl) rfl (fun p e s m args below meth c A C hr => ?_)
  unfold fX1_fillQueue at h
  refine g_aload_n C dX1_fillQueue_0 rfl 0 rfl 1 rfl ?_
  refine g_iconst C (v := 0) dX1_fillQueue_1 (by decide) 2 rfl ?_
  obtain ⟨σ_1, eσ_1, h⟩ := o_lt h
  refine wpX1_144_58 C eσ_1 dX1_fillQueue_2 5 rfl ?_
  refine g_iconst C (v := 0) dX1_fillQueue_5 (by decide) 6 rfl ?_
  obtain ⟨x2_2, ex2_2, h⟩ := o_lt h
  refine g_istore_n C (lv' := [(2, .int x2_2), (0, .ref (ad 58)), (1, .ref (ad 54))]) ex2_2 dX1_fillQueue_6 rfl (by decide) rfl 7 rfl ?_
  exact g_sub C [1, 2, 0] rfl (kX1_fillQueue_L7 C hr  n x2_2 σ_1 h)
end WK
/-! X1_endOf int endOf(int); -/
def fX1_endOf (n : Nat) (x1 : Int32) (σ : ST) : Option (Int32 × ST) :=
  (Option.bind (fX1_reckonSoonest_35 n σ) (fun q_1 => (Option.bind (fX1_fillQueue n q_1) (fun q_2 => (Option.bind (fX1_runAhead n ((280001 : Int32)) q_2) (fun q_3 => (Option.bind (fX10_isBelow x1 ((7 : Int32)) q_3) (fun q_4 => (if q_4.1 = 0 then (some ((400 : Int32), q_4.2)) else (if ix x1 7 then (some (ldA q_4.2 61 x1, q_4.2)) else none))))))))))
section WK
variable {p : Program} {l : Launch} {e : Env} {R : Room} {s : State} {m : MethodId} {args : Array Value} {below : List Frame} {meth : Method} {c : Code} {Q : State → Prop}
variable {D : va_G} {ad : Nat → Nat} {cI cJ cB cZ : ClassId} {A : Nat → Prop} {cc : ByteArray} {nL lev : Nat}
variable {σ : ST} {pc : Nat} {lv : List (Nat × Value)} {st : List Value}
set_option maxHeartbeats 4000000 in
set_option maxRecDepth 100000 in
theorem kX1_endOf {l : Launch} {D : va_G} {ad : Nat → Nat} {cI cJ cB cZ : ClassId}  {n : Nat} {x1 : Int32} {σ : ST} {res : Int32 × ST} (h : fX1_endOf n x1 σ = some res) : CMi l D (tyz cI cJ cB cZ) (wX ad cI cJ cB cZ) 5 yX1_endOf cX1_endOf 2 (some .int) [.ref (ad 58), .int x1] σ res := by
  refine cmi_body (own := RX1) (lv := [(0, .ref (ad 58)), (1, .int x1)]) (by decide) rfl (wX_addr _ _ _ _ _) (Nat.le_of_ble_eq_true rfl) rfl (fun p e s m args below meth c A C hr => ?_)
  unfold fX1_endOf at h
  refine g_aload_n C dX1_endOf_0 rfl 0 rfl 1 rfl ?_
  refine g_aload_n C dX1_endOf_1 rfl 0 rfl 2 rfl ?_
  refine wgX1_34_58 C dX1_endOf_2 5 rfl ?_
  refine wgX1_55_30 C dX1_endOf_5 8 rfl ?_
  obtain ⟨q_1, hq_1, h⟩ := o_bind h
  refine wcX1_47_X_58_35 C (kX1_reckonSoonest_35 hq_1) (by decide) (Nat.le_of_ble_eq_true rfl) dX1_endOf_8 11 rfl ?_
  refine g_aload_n C dX1_endOf_11 rfl 0 rfl 12 rfl ?_
  refine g_aload_n C dX1_endOf_12 rfl 0 rfl 13 rfl ?_
  refine wgX1_38_58 C dX1_endOf_13 16 rfl ?_
  refine wgX1_58_52 C dX1_endOf_16 19 rfl ?_
  obtain ⟨q_2, hq_2, h⟩ := o_bind h
  refine wcX1_63_X_58_54 C (kX1_fillQueue hq_2) (by decide) (Nat.le_of_ble_eq_true rfl) dX1_endOf_19 22 rfl ?_
  refine g_aload_n C dX1_endOf_22 rfl 0 rfl 23 rfl ?_
  refine g_ldc C (inr_34 _ (List.mem_of_getElem? (i := 15) rfl)) dX1_endOf_23 25 rfl ?_
  obtain ⟨q_3, hq_3, h⟩ := o_bind h
  refine wcX1_67_X_58 C (kX1_runAhead hq_3) (by decide) (Nat.le_of_ble_eq_true rfl) dX1_endOf_25 28 rfl ?_
  refine g_iload_n C dX1_endOf_28 rfl 1 rfl 29 rfl ?_
  refine g_bipush C (v := 7) dX1_endOf_29 (by decide) 31 rfl ?_
  obtain ⟨q_4, hq_4, h⟩ := o_bind h
  refine wcX1_51_X C (kX10_isBelow hq_4) (by decide) (Nat.le_of_ble_eq_true rfl) dX1_endOf_31 34 rfl ?_
  refine g_if_eq C 46 dX1_endOf_34 (by decide) 37 rfl (fun c_5 => ?_) (fun c_5 => ?_)
  · have h := o_pos h c_5
    refine g_sipush C (v := 400) dX1_endOf_46 (by decide) 49 rfl ?_
    exact g_iret C hr dX1_endOf_49 h
  · have h := o_neg h c_5
    refine g_aload_n C dX1_endOf_37 rfl 0 rfl 38 rfl ?_
    refine wgX1_18_58 C dX1_endOf_38 41 rfl ?_
    refine g_iload_n C dX1_endOf_41 rfl 1 rfl 42 rfl ?_
    obtain ⟨c_6, h⟩ := o_chk h
    refine wlX_61 C c_6 dX1_endOf_42 43 rfl ?_
    refine g_goto C 49 dX1_endOf_43 (by decide) ?_
    exact g_iret C hr dX1_endOf_49 h
end WK
/-! X10_foreseen public int foreseen(int); -/
def fX10_foreseen (n : Nat) (x1 : Int32) (σ : ST) : Option (Int32 × ST) :=
  (Option.bind (fX4_hasStep x1 σ) (fun q_1 => (if q_1.1 = 0 then (some ((-1 : Int32), q_1.2)) else (Option.bind (fX1_endOf n x1 q_1.2) (fun q_3 => (some (q_3.1, q_3.2)))))))
section WK
variable {p : Program} {l : Launch} {e : Env} {R : Room} {s : State} {m : MethodId} {args : Array Value} {below : List Frame} {meth : Method} {c : Code} {Q : State → Prop}
variable {D : va_G} {ad : Nat → Nat} {cI cJ cB cZ : ClassId} {A : Nat → Prop} {cc : ByteArray} {nL lev : Nat}
variable {σ : ST} {pc : Nat} {lv : List (Nat × Value)} {st : List Value}
set_option maxHeartbeats 4000000 in
set_option maxRecDepth 100000 in
theorem kX10_foreseen {l : Launch} {D : va_G} {ad : Nat → Nat} {cI cJ cB cZ : ClassId}  {n : Nat} {x1 : Int32} {σ : ST} {res : Int32 × ST} (h : fX10_foreseen n x1 σ = some res) : CMi l D (tyz cI cJ cB cZ) (wX ad cI cJ cB cZ) 6 yX10_foreseen cX10_foreseen 2 (some .int) [.ref (ad 0), .int x1] σ res := by
  refine cmi_body (own := RX10) (lv := [(0, .ref (ad 0)), (1, .int x1)]) (by decide) rfl (wX_addr _ _ _ _ _) (Nat.le_of_ble_eq_true rfl) rfl (fun p e s m args below meth c A C hr => ?_)
  unfold fX10_foreseen at h
  refine g_aload_n C dX10_foreseen_0 rfl 0 rfl 1 rfl ?_
  refine wgX10_37_0 C dX10_foreseen_1 4 rfl ?_
  refine g_iload_n C dX10_foreseen_4 rfl 1 rfl 5 rfl ?_
  obtain ⟨q_1, hq_1, h⟩ := o_bind h
  refine wcX10_187_X_19 C (kX4_hasStep hq_1) (by decide) (Nat.le_of_ble_eq_true rfl) dX10_foreseen_5 8 rfl ?_
  refine g_if_eq C 22 dX10_foreseen_8 (by decide) 11 rfl (fun c_2 => ?_) (fun c_2 => ?_)
  · have h := o_pos h c_2
    refine g_iconst C (v := -1) dX10_foreseen_22 (by decide) 23 rfl ?_
    exact g_iret C hr dX10_foreseen_23 h
  · have h := o_neg h c_2
    refine g_aload_n C dX10_foreseen_11 rfl 0 rfl 12 rfl ?_
    refine wgX10_76_0 C dX10_foreseen_12 15 rfl ?_
    refine g_iload_n C dX10_foreseen_15 rfl 1 rfl 16 rfl ?_
    obtain ⟨q_3, hq_3, h⟩ := o_bind h
    refine wcX10_193_X_58 C (kX1_endOf hq_3) (by decide) (Nat.le_of_ble_eq_true rfl) dX10_foreseen_16 19 rfl ?_
    refine g_goto C 23 dX10_foreseen_19 (by decide) ?_
    exact g_iret C hr dX10_foreseen_23 h
end WK
/-! X1_openingOf_34 private int openingOf(int, int[]); -/
def fX1_openingOf_34_L34  : Nat → Int32 → Int32 → Int32 → ST → Option (Int32 × ST)
  | 0, _, _, _, _ => none
  | n + 1, x3, x4, x5, σ => (if ((6 : Int32)) ≤ x5 then (some (x3, σ)) else (if ((x4 >>> (x5 &&& 31)) &&& ((1 : Int32))) = 0 then (lt (x5 + 1) (fun x5_7 => (fX1_openingOf_34_L34 n x3 x4 x5_7 σ))) else (if ix x5 6 then (lt (if x3 < (ldA σ 34 x5) then (ldA σ 34 x5) else x3) (fun x3_9 => (lt (x5 + 1) (fun x5_10 => (fX1_openingOf_34_L34 n x3_9 x4 x5_10 σ))))) else none)))
def fX1_openingOf_34 (n : Nat) (x1 : Int32) (σ : ST) : Option (Int32 × ST) :=
  (lt ((gI σ 18) + ((1 : Int32))) (fun x3_1 => (if ix x1 7 then (lt ((ldA σ 24 x1) &&& ((gI σ 13) ^^^ ((-1 : Int32)))) (fun x4_3 => (lt ((0 : Int32)) (fun x5_4 => (fX1_openingOf_34_L34 n x3_1 x4_3 x5_4 σ))))) else none)))
section WK
variable {p : Program} {l : Launch} {e : Env} {R : Room} {s : State} {m : MethodId} {args : Array Value} {below : List Frame} {meth : Method} {c : Code} {Q : State → Prop}
variable {D : va_G} {ad : Nat → Nat} {cI cJ cB cZ : ClassId} {A : Nat → Prop} {cc : ByteArray} {nL lev : Nat}
variable {σ : ST} {pc : Nat} {lv : List (Nat × Value)} {st : List Value}
set_option maxHeartbeats 4000000 in
set_option maxRecDepth 100000 in
theorem kX1_openingOf_34_L34 (C : Ctx p l e (rmL 1) s m args below meth c D (tyz cI cJ cB cZ) (wX ad cI cJ cB cZ) A cX1_openingOf 6 1 RX1) (hr : meth.sig.returnType = some .int) {res : Int32 × ST}   : ∀ (n : Nat) (x3 : Int32) (x4 : Int32) (x5 : Int32) (σ : ST), fX1_openingOf_34_L34 n x3 x4 x5 σ = some res → G p l e (rmL 1) s m args below meth c (MQ below (Qi D (tyz cI cJ cB cZ) (wX ad cI cJ cB cZ) A res) args s 0 0 A) D (wX ad cI cJ cB cZ) A 6 σ 34 [(0, .ref (ad 58)), (2, .ref (ad 34)), (3, .int x3), (4, .int x4), (5, .int x5)] [] := by
  intro n
  induction n with
  | zero => intro x3 x4 x5 σ h; have h : none = some res := h; cases h
  | succ n ih =>
    intro x3 x4 x5 σ h
    rw [fX1_openingOf_34_L34] at h
    refine g_iload C dX1_openingOf_34 4 rfl 36 rfl ?_
    refine g_bipush C (v := 6) dX1_openingOf_36 (by decide) 38 rfl ?_
    refine g_icmp_ge C 66 dX1_openingOf_38 (by decide) 41 rfl (fun c_5 => ?_) (fun c_5 => ?_)
    · have h := o_pos h c_5
      refine g_iload_n C dX1_openingOf_66 rfl 2 rfl 67 rfl ?_
      exact g_iret C hr dX1_openingOf_67 h
    · have h := o_neg h c_5
      refine g_iload C dX1_openingOf_41 3 rfl 43 rfl ?_
      refine g_iload C dX1_openingOf_43 4 rfl 45 rfl ?_
      refine g_ishr C dX1_openingOf_45 46 rfl ?_
      refine g_iconst C (v := 1) dX1_openingOf_46 (by decide) 47 rfl ?_
      refine g_iand C dX1_openingOf_47 48 rfl ?_
      refine g_if_eq C 60 dX1_openingOf_48 (by decide) 51 rfl (fun c_6 => ?_) (fun c_6 => ?_)
      · have h := o_pos h c_6
        obtain ⟨x5_7, ex5_7, h⟩ := o_lt h
        refine g_iinc C (lv' := [(5, .int x5_7), (0, .ref (ad 58)), (2, .ref (ad 34)), (3, .int x3), (4, .int x4)]) ex5_7 dX1_openingOf_60 4 rfl (by decide) (by decide) rfl 63 rfl ?_
        refine g_goto C 34 dX1_openingOf_63 (by decide) ?_
        exact g_sub C [1, 2, 3, 4, 0] rfl (ih x3 x4 x5_7 σ h)
      · have h := o_neg h c_6
        refine g_iload_n C dX1_openingOf_51 rfl 2 rfl 52 rfl ?_
        refine g_aload_n C dX1_openingOf_52 rfl 1 rfl 53 rfl ?_
        refine g_iload C dX1_openingOf_53 4 rfl 55 rfl ?_
        obtain ⟨c_8, h⟩ := o_chk h
        refine wlX_34 C c_8 dX1_openingOf_55 56 rfl ?_
        refine g_max C (inr_35 _ (List.mem_of_getElem? (i := 4) rfl)) (inr_35 _ (List.mem_of_getElem? (i := 5) rfl)) (inr_24 _ (List.mem_of_getElem? (i := 4) rfl)) (inr_35 _ (List.mem_of_getElem? (i := 6) rfl)) (by decide) (Nat.le_of_ble_eq_true rfl) dX1_openingOf_56 59 rfl ?_
        obtain ⟨x3_9, ex3_9, h⟩ := o_lt h
        refine g_istore_n C (lv' := [(3, .int x3_9), (0, .ref (ad 58)), (2, .ref (ad 34)), (4, .int x4), (5, .int x5)]) ex3_9 dX1_openingOf_59 rfl (by decide) rfl 60 rfl ?_
        obtain ⟨x5_10, ex5_10, h⟩ := o_lt h
        refine g_iinc C (lv' := [(5, .int x5_10), (3, .int x3_9), (0, .ref (ad 58)), (2, .ref (ad 34)), (4, .int x4)]) ex5_10 dX1_openingOf_60 4 rfl (by decide) (by decide) rfl 63 rfl ?_
        refine g_goto C 34 dX1_openingOf_63 (by decide) ?_
        exact g_sub C [2, 3, 1, 4, 0] rfl (ih x3_9 x4 x5_10 σ h)
set_option maxHeartbeats 4000000 in
set_option maxRecDepth 100000 in
theorem kX1_openingOf_34 {l : Launch} {D : va_G} {ad : Nat → Nat} {cI cJ cB cZ : ClassId}  {n : Nat} {x1 : Int32} {σ : ST} {res : Int32 × ST} (h : fX1_openingOf_34 n x1 σ = some res) : CMi l D (tyz cI cJ cB cZ) (wX ad cI cJ cB cZ) 1 yX1_openingOf cX1_openingOf 6 (some .int) [.ref (ad 58), .int x1, .ref (ad 34)] σ res := by
  refine cmi_body (own := RX1) (lv := [(0, .ref (ad 58)), (1, .int x1), (2, .ref (ad 34))]) (by decide) rfl (wX_addr _ _ _ _ _) (Nat.le_of_ble_eq_true rfl) rfl (fun p e s m args below meth c A C hr => ?_)
  unfold fX1_openingOf_34 at h
  refine g_aload_n C dX1_openingOf_0 rfl 0 rfl 1 rfl ?_
  refine wgX1_38_58 C dX1_openingOf_1 4 rfl ?_
  refine wgX1_110_52 C dX1_openingOf_4 7 rfl ?_
  refine g_iconst C (v := 1) dX1_openingOf_7 (by decide) 8 rfl ?_
  refine g_iadd C dX1_openingOf_8 9 rfl ?_
  obtain ⟨x3_1, ex3_1, h⟩ := o_lt h
  refine g_istore_n C (lv' := [(3, .int x3_1), (0, .ref (ad 58)), (1, .int x1), (2, .ref (ad 34))]) ex3_1 dX1_openingOf_9 rfl (by decide) rfl 10 rfl ?_
  refine g_aload_n C dX1_openingOf_10 rfl 1 rfl 11 rfl ?_
  refine wgX1_30_58 C dX1_openingOf_11 14 rfl ?_
  refine wgX1_135_19 C dX1_openingOf_14 17 rfl ?_
  refine g_iload_n C dX1_openingOf_17 rfl 2 rfl 18 rfl ?_
  obtain ⟨c_2, h⟩ := o_chk h
  refine wlX_24 C c_2 dX1_openingOf_18 19 rfl ?_
  refine g_aload_n C dX1_openingOf_19 rfl 1 rfl 20 rfl ?_
  refine wgX1_34_58 C dX1_openingOf_20 23 rfl ?_
  refine wgX1_138_30 C dX1_openingOf_23 26 rfl ?_
  refine g_iconst C (v := -1) dX1_openingOf_26 (by decide) 27 rfl ?_
  refine g_ixor C dX1_openingOf_27 28 rfl ?_
  refine g_iand C dX1_openingOf_28 29 rfl ?_
  obtain ⟨x4_3, ex4_3, h⟩ := o_lt h
  refine g_istore C (lv' := [(4, .int x4_3), (3, .int x3_1), (0, .ref (ad 58)), (1, .int x1), (2, .ref (ad 34))]) ex4_3 dX1_openingOf_29 (by decide) rfl 31 rfl ?_
  refine g_iconst C (v := 0) dX1_openingOf_31 (by decide) 32 rfl ?_
  obtain ⟨x5_4, ex5_4, h⟩ := o_lt h
  refine g_istore C (lv' := [(5, .int x5_4), (4, .int x4_3), (3, .int x3_1), (0, .ref (ad 58)), (1, .int x1), (2, .ref (ad 34))]) ex5_4 dX1_openingOf_32 (by decide) rfl 34 rfl ?_
  exact g_sub C [3, 5, 2, 1, 0] rfl (kX1_openingOf_34_L34 C hr  n x3_1 x4_3 x5_4 σ h)
end WK
/-! X1_reckonSoonest_34 private void reckonSoonest(int[]); -/
def fX1_reckonSoonest_34_L7  : Nat → Int32 → ST → Option (ST)
  | 0, _, _ => none
  | n + 1, x2, σ => (if (gI σ 10) ≤ x2 then (some σ) else (Option.bind (fX1_openingOf_34 n x2 σ) (fun q_4 => (if ix x2 7 then (lt (stA q_4.2 59 x2 q_4.1) (fun σ_6 => (Option.bind (fX9_isDone x2 σ_6) (fun q_7 => (lt (fun (x2_8 : Int32) (σ_9 : ST) => (if ix x2_8 7 then (Option.bind (fX1_costOf x2_8 (ldA σ_9 60 x2_8) σ_9) (fun q_11 => (lt (sI q_11.2 25 ((gI σ_9 25) + q_11.1)) (fun σ_12 => (lt (x2_8 + 1) (fun x2_13 => (fX1_reckonSoonest_34_L7 n x2_13 σ_12))))))) else none)) (fun j150 => (if q_7.1 = 0 then (Option.bind (fX9_isUnderWay x2 q_7.2) (fun q_15 => (if q_15.1 = 0 then (if ix x2 7 then (Option.bind (fX1_partsOpening n x2 q_15.2) (fun q_18 => (if ix x2 7 then (if ix x2 7 then (lt (stA q_18.2 60 x2 (if (((if (ldA q_15.2 59 x2) < q_18.1 then q_18.1 else (ldA q_15.2 59 x2)) + (ldA q_18.2 21 x2)) - ((1 : Int32))) < ((400 : Int32)) then (((if (ldA q_15.2 59 x2) < q_18.1 then q_18.1 else (ldA q_15.2 59 x2)) + (ldA q_18.2 21 x2)) - ((1 : Int32))) else ((400 : Int32)))) (fun σ_21 => (j150 x2 σ_21))) else none) else none))) else none) else (if ix x2 7 then (if ix x2 7 then (if ix x2 7 then (lt (stA q_15.2 60 x2 (if (((gI q_15.2 18) + (ldA q_15.2 21 x2)) - (ldA q_15.2 57 x2)) < ((400 : Int32)) then (((gI q_15.2 18) + (ldA q_15.2 21 x2)) - (ldA q_15.2 57 x2)) else ((400 : Int32)))) (fun σ_25 => (j150 x2 σ_25))) else none) else none) else none)))) else (if ix x2 7 then (if ix x2 7 then (lt (stA q_7.2 60 x2 (ldA q_7.2 55 x2)) (fun σ_28 => (j150 x2 σ_28))) else none) else none)))))))) else none))))
def fX1_reckonSoonest_34 (n : Nat)  (σ : ST) : Option (ST) :=
  (lt (sI σ 25 ((0 : Int32))) (fun σ_1 => (lt ((0 : Int32)) (fun x2_2 => (fX1_reckonSoonest_34_L7 n x2_2 σ_1)))))
section WK
variable {p : Program} {l : Launch} {e : Env} {R : Room} {s : State} {m : MethodId} {args : Array Value} {below : List Frame} {meth : Method} {c : Code} {Q : State → Prop}
variable {D : va_G} {ad : Nat → Nat} {cI cJ cB cZ : ClassId} {A : Nat → Prop} {cc : ByteArray} {nL lev : Nat}
variable {σ : ST} {pc : Nat} {lv : List (Nat × Value)} {st : List Value}
set_option maxHeartbeats 4000000 in
set_option maxRecDepth 100000 in
theorem kX1_reckonSoonest_34_L7 (C : Ctx p l e (rmL 2) s m args below meth c D (tyz cI cJ cB cZ) (wX ad cI cJ cB cZ) A cX1_reckonSoonest 3 2 RX1) (hr : meth.sig.returnType = none) {res : ST}   : ∀ (n : Nat) (x2 : Int32) (σ : ST), fX1_reckonSoonest_34_L7 n x2 σ = some res → G p l e (rmL 2) s m args below meth c (MQ below (Qv D (tyz cI cJ cB cZ) (wX ad cI cJ cB cZ) A res) args s 0 0 A) D (wX ad cI cJ cB cZ) A 3 σ 7 [(0, .ref (ad 58)), (1, .ref (ad 34)), (2, .int x2)] [] := by
  intro n
  induction n with
  | zero => intro x2 σ h; have h : none = some res := h; cases h
  | succ n ih =>
    intro x2 σ h
    rw [fX1_reckonSoonest_34_L7] at h
    refine g_iload_n C dX1_reckonSoonest_7 rfl 2 rfl 8 rfl ?_
    refine g_aload_n C dX1_reckonSoonest_8 rfl 0 rfl 9 rfl ?_
    refine wgX1_30_58 C dX1_reckonSoonest_9 12 rfl ?_
    refine wgX1_91_19 C dX1_reckonSoonest_12 15 rfl ?_
    refine g_icmp_ge C 176 dX1_reckonSoonest_15 (by decide) 18 rfl (fun c_3 => ?_) (fun c_3 => ?_)
    · have h := o_pos h c_3
      exact g_vret C hr dX1_reckonSoonest_176 h
    · have h := o_neg h c_3
      refine g_aload_n C dX1_reckonSoonest_18 rfl 0 rfl 19 rfl ?_
      refine wgX1_9_58 C dX1_reckonSoonest_19 22 rfl ?_
      refine g_iload_n C dX1_reckonSoonest_22 rfl 2 rfl 23 rfl ?_
      refine g_aload_n C dX1_reckonSoonest_23 rfl 0 rfl 24 rfl ?_
      refine g_iload_n C dX1_reckonSoonest_24 rfl 2 rfl 25 rfl ?_
      refine g_aload_n C dX1_reckonSoonest_25 rfl 1 rfl 26 rfl ?_
      obtain ⟨q_4, hq_4, h⟩ := o_bind h
      refine wcX1_96_X_58_34 C (kX1_openingOf_34 hq_4) (by decide) (Nat.le_of_ble_eq_true rfl) dX1_reckonSoonest_26 29 rfl ?_
      obtain ⟨c_5, h⟩ := o_chk h
      obtain ⟨σ_6, eσ_6, h⟩ := o_lt h
      refine wtX_59 C eσ_6 c_5 dX1_reckonSoonest_29 30 rfl ?_
      refine g_aload_n C dX1_reckonSoonest_30 rfl 0 rfl 31 rfl ?_
      refine wgX1_38_58 C dX1_reckonSoonest_31 34 rfl ?_
      refine g_iload_n C dX1_reckonSoonest_34 rfl 2 rfl 35 rfl ?_
      obtain ⟨q_7, hq_7, h⟩ := o_bind h
      refine wcX1_100_X_52 C (kX9_isDone hq_7) (by decide) (Nat.le_of_ble_eq_true rfl) dX1_reckonSoonest_35 38 rfl ?_
      obtain ⟨j150, ej150, h⟩ := o_lt h
      have hj150 : ∀ (x2_8 : Int32) (σ_9 : ST), j150 x2_8 σ_9 = some res → G p l e (rmL 2) s m args below meth c (MQ below (Qv D (tyz cI cJ cB cZ) (wX ad cI cJ cB cZ) A res) args s 0 0 A) D (wX ad cI cJ cB cZ) A 3 σ_9 150 [(0, .ref (ad 58)), (1, .ref (ad 34)), (2, .int x2_8)] [] := by
        intro x2_8 σ_9 h
        rw [ej150] at h
        refine g_aload_n C dX1_reckonSoonest_150 rfl 0 rfl 151 rfl ?_
        refine g_dup C dX1_reckonSoonest_151 rfl 152 rfl ?_
        refine wgX1_81_58 C dX1_reckonSoonest_152 155 rfl ?_
        refine g_aload_n C dX1_reckonSoonest_155 rfl 0 rfl 156 rfl ?_
        refine g_iload_n C dX1_reckonSoonest_156 rfl 2 rfl 157 rfl ?_
        refine g_aload_n C dX1_reckonSoonest_157 rfl 0 rfl 158 rfl ?_
        refine wgX1_15_58 C dX1_reckonSoonest_158 161 rfl ?_
        refine g_iload_n C dX1_reckonSoonest_161 rfl 2 rfl 162 rfl ?_
        obtain ⟨c_10, h⟩ := o_chk h
        refine wlX_60 C c_10 dX1_reckonSoonest_162 163 rfl ?_
        obtain ⟨q_11, hq_11, h⟩ := o_bind h
        refine wcX1_132_X_58 C (kX1_costOf hq_11) (by decide) (Nat.le_of_ble_eq_true rfl) dX1_reckonSoonest_163 166 rfl ?_
        refine g_iadd C dX1_reckonSoonest_166 167 rfl ?_
        obtain ⟨σ_12, eσ_12, h⟩ := o_lt h
        refine wpX1_81_58 C eσ_12 dX1_reckonSoonest_167 170 rfl ?_
        obtain ⟨x2_13, ex2_13, h⟩ := o_lt h
        refine g_iinc C (lv' := [(2, .int x2_13), (0, .ref (ad 58)), (1, .ref (ad 34))]) ex2_13 dX1_reckonSoonest_170 2 rfl (by decide) (by decide) rfl 173 rfl ?_
        refine g_goto C 7 dX1_reckonSoonest_173 (by decide) ?_
        exact g_sub C [1, 2, 0] rfl (ih x2_13 σ_12 h)
      refine g_if_eq C 59 dX1_reckonSoonest_38 (by decide) 41 rfl (fun c_14 => ?_) (fun c_14 => ?_)
      · have h := o_pos h c_14
        refine g_aload_n C dX1_reckonSoonest_59 rfl 0 rfl 60 rfl ?_
        refine wgX1_38_58 C dX1_reckonSoonest_60 63 rfl ?_
        refine g_iload_n C dX1_reckonSoonest_63 rfl 2 rfl 64 rfl ?_
        obtain ⟨q_15, hq_15, h⟩ := o_bind h
        refine wcX1_107_X_52 C (kX9_isUnderWay hq_15) (by decide) (Nat.le_of_ble_eq_true rfl) dX1_reckonSoonest_64 67 rfl ?_
        refine g_if_eq C 112 dX1_reckonSoonest_67 (by decide) 70 rfl (fun c_16 => ?_) (fun c_16 => ?_)
        · have h := o_pos h c_16
          refine g_aload_n C dX1_reckonSoonest_112 rfl 0 rfl 113 rfl ?_
          refine wgX1_15_58 C dX1_reckonSoonest_113 116 rfl ?_
          refine g_iload_n C dX1_reckonSoonest_116 rfl 2 rfl 117 rfl ?_
          refine g_sipush C (v := 400) dX1_reckonSoonest_117 (by decide) 120 rfl ?_
          refine g_aload_n C dX1_reckonSoonest_120 rfl 0 rfl 121 rfl ?_
          refine wgX1_9_58 C dX1_reckonSoonest_121 124 rfl ?_
          refine g_iload_n C dX1_reckonSoonest_124 rfl 2 rfl 125 rfl ?_
          obtain ⟨c_17, h⟩ := o_chk h
          refine wlX_59 C c_17 dX1_reckonSoonest_125 126 rfl ?_
          refine g_aload_n C dX1_reckonSoonest_126 rfl 0 rfl 127 rfl ?_
          refine g_iload_n C dX1_reckonSoonest_127 rfl 2 rfl 128 rfl ?_
          obtain ⟨q_18, hq_18, h⟩ := o_bind h
          refine wcX1_125_X_58 C (kX1_partsOpening hq_18) (by decide) (Nat.le_of_ble_eq_true rfl) dX1_reckonSoonest_128 131 rfl ?_
          refine g_max C (inr_35 _ (List.mem_of_getElem? (i := 4) rfl)) (inr_35 _ (List.mem_of_getElem? (i := 5) rfl)) (inr_24 _ (List.mem_of_getElem? (i := 4) rfl)) (inr_35 _ (List.mem_of_getElem? (i := 6) rfl)) (by decide) (Nat.le_of_ble_eq_true rfl) dX1_reckonSoonest_131 134 rfl ?_
          refine g_aload_n C dX1_reckonSoonest_134 rfl 0 rfl 135 rfl ?_
          refine wgX1_30_58 C dX1_reckonSoonest_135 138 rfl ?_
          refine wgX1_113_19 C dX1_reckonSoonest_138 141 rfl ?_
          refine g_iload_n C dX1_reckonSoonest_141 rfl 2 rfl 142 rfl ?_
          obtain ⟨c_19, h⟩ := o_chk h
          refine wlX_21 C c_19 dX1_reckonSoonest_142 143 rfl ?_
          refine g_iadd C dX1_reckonSoonest_143 144 rfl ?_
          refine g_iconst C (v := 1) dX1_reckonSoonest_144 (by decide) 145 rfl ?_
          refine g_isub C dX1_reckonSoonest_145 146 rfl ?_
          refine g_min C (inr_35 _ (List.mem_of_getElem? (i := 3) rfl)) (inr_31 _ (List.mem_of_getElem? (i := 13) rfl)) (inr_24 _ (List.mem_of_getElem? (i := 4) rfl)) (inr_31 _ (List.mem_of_getElem? (i := 14) rfl)) (by decide) (Nat.le_of_ble_eq_true rfl) dX1_reckonSoonest_146 149 rfl ?_
          obtain ⟨c_20, h⟩ := o_chk h
          obtain ⟨σ_21, eσ_21, h⟩ := o_lt h
          refine wtX_60 C eσ_21 c_20 dX1_reckonSoonest_149 150 rfl ?_
          exact g_sub C [0, 1, 2] rfl (hj150 x2 σ_21 h)
        · have h := o_neg h c_16
          refine g_aload_n C dX1_reckonSoonest_70 rfl 0 rfl 71 rfl ?_
          refine wgX1_15_58 C dX1_reckonSoonest_71 74 rfl ?_
          refine g_iload_n C dX1_reckonSoonest_74 rfl 2 rfl 75 rfl ?_
          refine g_sipush C (v := 400) dX1_reckonSoonest_75 (by decide) 78 rfl ?_
          refine g_aload_n C dX1_reckonSoonest_78 rfl 0 rfl 79 rfl ?_
          refine wgX1_38_58 C dX1_reckonSoonest_79 82 rfl ?_
          refine wgX1_110_52 C dX1_reckonSoonest_82 85 rfl ?_
          refine g_aload_n C dX1_reckonSoonest_85 rfl 0 rfl 86 rfl ?_
          refine wgX1_30_58 C dX1_reckonSoonest_86 89 rfl ?_
          refine wgX1_113_19 C dX1_reckonSoonest_89 92 rfl ?_
          refine g_iload_n C dX1_reckonSoonest_92 rfl 2 rfl 93 rfl ?_
          obtain ⟨c_22, h⟩ := o_chk h
          refine wlX_21 C c_22 dX1_reckonSoonest_93 94 rfl ?_
          refine g_iadd C dX1_reckonSoonest_94 95 rfl ?_
          refine g_aload_n C dX1_reckonSoonest_95 rfl 0 rfl 96 rfl ?_
          refine wgX1_38_58 C dX1_reckonSoonest_96 99 rfl ?_
          refine wgX1_116_52 C dX1_reckonSoonest_99 102 rfl ?_
          refine g_iload_n C dX1_reckonSoonest_102 rfl 2 rfl 103 rfl ?_
          obtain ⟨c_23, h⟩ := o_chk h
          refine wlX_57 C c_23 dX1_reckonSoonest_103 104 rfl ?_
          refine g_isub C dX1_reckonSoonest_104 105 rfl ?_
          refine g_min C (inr_35 _ (List.mem_of_getElem? (i := 3) rfl)) (inr_31 _ (List.mem_of_getElem? (i := 13) rfl)) (inr_24 _ (List.mem_of_getElem? (i := 4) rfl)) (inr_31 _ (List.mem_of_getElem? (i := 14) rfl)) (by decide) (Nat.le_of_ble_eq_true rfl) dX1_reckonSoonest_105 108 rfl ?_
          obtain ⟨c_24, h⟩ := o_chk h
          obtain ⟨σ_25, eσ_25, h⟩ := o_lt h
          refine wtX_60 C eσ_25 c_24 dX1_reckonSoonest_108 109 rfl ?_
          refine g_goto C 150 dX1_reckonSoonest_109 (by decide) ?_
          exact g_sub C [0, 1, 2] rfl (hj150 x2 σ_25 h)
      · have h := o_neg h c_14
        refine g_aload_n C dX1_reckonSoonest_41 rfl 0 rfl 42 rfl ?_
        refine wgX1_15_58 C dX1_reckonSoonest_42 45 rfl ?_
        refine g_iload_n C dX1_reckonSoonest_45 rfl 2 rfl 46 rfl ?_
        refine g_aload_n C dX1_reckonSoonest_46 rfl 0 rfl 47 rfl ?_
        refine wgX1_38_58 C dX1_reckonSoonest_47 50 rfl ?_
        refine wgX1_104_52 C dX1_reckonSoonest_50 53 rfl ?_
        refine g_iload_n C dX1_reckonSoonest_53 rfl 2 rfl 54 rfl ?_
        obtain ⟨c_26, h⟩ := o_chk h
        refine wlX_55 C c_26 dX1_reckonSoonest_54 55 rfl ?_
        obtain ⟨c_27, h⟩ := o_chk h
        obtain ⟨σ_28, eσ_28, h⟩ := o_lt h
        refine wtX_60 C eσ_28 c_27 dX1_reckonSoonest_55 56 rfl ?_
        refine g_goto C 150 dX1_reckonSoonest_56 (by decide) ?_
        exact g_sub C [0, 1, 2] rfl (hj150 x2 σ_28 h)
set_option maxHeartbeats 4000000 in
set_option maxRecDepth 100000 in
theorem kX1_reckonSoonest_34 {l : Launch} {D : va_G} {ad : Nat → Nat} {cI cJ cB cZ : ClassId}  {n : Nat}  {σ : ST} {res : ST} (h : fX1_reckonSoonest_34 n σ = some res) : CMv l D (tyz cI cJ cB cZ) (wX ad cI cJ cB cZ) 2 yX1_reckonSoonest cX1_reckonSoonest 3 none [.ref (ad 58), .ref (ad 34)] σ res := by
  refine cmv_body (own := RX1) (lv := [(0, .ref (ad 58)), (1, .ref (ad 34))]) (by decide) rfl (wX_addr _ _ _ _ _) (Nat.le_of_ble_eq_true rfl) rfl (fun p e s m args below meth c A C hr => ?_)
  unfold fX1_reckonSoonest_34 at h
  refine g_aload_n C dX1_reckonSoonest_0 rfl 0 rfl 1 rfl ?_
  refine g_iconst C (v := 0) dX1_reckonSoonest_1 (by decide) 2 rfl ?_
  obtain ⟨σ_1, eσ_1, h⟩ := o_lt h
  refine wpX1_81_58 C eσ_1 dX1_reckonSoonest_2 5 rfl ?_
  refine g_iconst C (v := 0) dX1_reckonSoonest_5 (by decide) 6 rfl ?_
  obtain ⟨x2_2, ex2_2, h⟩ := o_lt h
  refine g_istore_n C (lv' := [(2, .int x2_2), (0, .ref (ad 58)), (1, .ref (ad 34))]) ex2_2 dX1_reckonSoonest_6 rfl (by decide) rfl 7 rfl ?_
  exact g_sub C [1, 2, 0] rfl (kX1_reckonSoonest_34_L7 C hr  n x2_2 σ_1 h)
end WK
/-! X1_soonestEndOf int soonestEndOf(int); -/
def fX1_soonestEndOf (n : Nat) (x1 : Int32) (σ : ST) : Option (Int32 × ST) :=
  (Option.bind (fX1_reckonSoonest_34 n σ) (fun q_1 => (Option.bind (fX10_isBelow x1 ((7 : Int32)) q_1) (fun q_2 => (if q_2.1 = 0 then (some ((400 : Int32), q_2.2)) else (if ix x1 7 then (some (ldA q_2.2 60 x1, q_2.2)) else none))))))
section WK
variable {p : Program} {l : Launch} {e : Env} {R : Room} {s : State} {m : MethodId} {args : Array Value} {below : List Frame} {meth : Method} {c : Code} {Q : State → Prop}
variable {D : va_G} {ad : Nat → Nat} {cI cJ cB cZ : ClassId} {A : Nat → Prop} {cc : ByteArray} {nL lev : Nat}
variable {σ : ST} {pc : Nat} {lv : List (Nat × Value)} {st : List Value}
set_option maxHeartbeats 4000000 in
set_option maxRecDepth 100000 in
theorem kX1_soonestEndOf {l : Launch} {D : va_G} {ad : Nat → Nat} {cI cJ cB cZ : ClassId}  {n : Nat} {x1 : Int32} {σ : ST} {res : Int32 × ST} (h : fX1_soonestEndOf n x1 σ = some res) : CMi l D (tyz cI cJ cB cZ) (wX ad cI cJ cB cZ) 3 yX1_soonestEndOf cX1_soonestEndOf 2 (some .int) [.ref (ad 58), .int x1] σ res := by
  refine cmi_body (own := RX1) (lv := [(0, .ref (ad 58)), (1, .int x1)]) (by decide) rfl (wX_addr _ _ _ _ _) (Nat.le_of_ble_eq_true rfl) rfl (fun p e s m args below meth c A C hr => ?_)
  unfold fX1_soonestEndOf at h
  refine g_aload_n C dX1_soonestEndOf_0 rfl 0 rfl 1 rfl ?_
  refine g_aload_n C dX1_soonestEndOf_1 rfl 0 rfl 2 rfl ?_
  refine wgX1_34_58 C dX1_soonestEndOf_2 5 rfl ?_
  refine wgX1_42_30 C dX1_soonestEndOf_5 8 rfl ?_
  obtain ⟨q_1, hq_1, h⟩ := o_bind h
  refine wcX1_47_X_58_34 C (kX1_reckonSoonest_34 hq_1) (by decide) (Nat.le_of_ble_eq_true rfl) dX1_soonestEndOf_8 11 rfl ?_
  refine g_iload_n C dX1_soonestEndOf_11 rfl 1 rfl 12 rfl ?_
  refine g_bipush C (v := 7) dX1_soonestEndOf_12 (by decide) 14 rfl ?_
  obtain ⟨q_2, hq_2, h⟩ := o_bind h
  refine wcX1_51_X C (kX10_isBelow hq_2) (by decide) (Nat.le_of_ble_eq_true rfl) dX1_soonestEndOf_14 17 rfl ?_
  refine g_if_eq C 29 dX1_soonestEndOf_17 (by decide) 20 rfl (fun c_3 => ?_) (fun c_3 => ?_)
  · have h := o_pos h c_3
    refine g_sipush C (v := 400) dX1_soonestEndOf_29 (by decide) 32 rfl ?_
    exact g_iret C hr dX1_soonestEndOf_32 h
  · have h := o_neg h c_3
    refine g_aload_n C dX1_soonestEndOf_20 rfl 0 rfl 21 rfl ?_
    refine wgX1_15_58 C dX1_soonestEndOf_21 24 rfl ?_
    refine g_iload_n C dX1_soonestEndOf_24 rfl 1 rfl 25 rfl ?_
    obtain ⟨c_4, h⟩ := o_chk h
    refine wlX_60 C c_4 dX1_soonestEndOf_25 26 rfl ?_
    refine g_goto C 32 dX1_soonestEndOf_26 (by decide) ?_
    exact g_iret C hr dX1_soonestEndOf_32 h
end WK
/-! X10_sure public int sure(int); -/
def fX10_sure (n : Nat) (x1 : Int32) (σ : ST) : Option (Int32 × ST) :=
  (Option.bind (fX4_hasReport x1 σ) (fun q_1 => (if q_1.1 = 0 then (some ((-1 : Int32), q_1.2)) else (Option.bind (fX1_soonestEndOf n x1 q_1.2) (fun q_3 => (if ix x1 7 then (if q_3.1 ≤ (ldA q_3.2 22 x1) then (some ((0 : Int32), q_3.2)) else (some ((1 : Int32), q_3.2))) else none))))))
section WK
variable {p : Program} {l : Launch} {e : Env} {R : Room} {s : State} {m : MethodId} {args : Array Value} {below : List Frame} {meth : Method} {c : Code} {Q : State → Prop}
variable {D : va_G} {ad : Nat → Nat} {cI cJ cB cZ : ClassId} {A : Nat → Prop} {cc : ByteArray} {nL lev : Nat}
variable {σ : ST} {pc : Nat} {lv : List (Nat × Value)} {st : List Value}
set_option maxHeartbeats 4000000 in
set_option maxRecDepth 100000 in
theorem kX10_sure {l : Launch} {D : va_G} {ad : Nat → Nat} {cI cJ cB cZ : ClassId}  {n : Nat} {x1 : Int32} {σ : ST} {res : Int32 × ST} (h : fX10_sure n x1 σ = some res) : CMi l D (tyz cI cJ cB cZ) (wX ad cI cJ cB cZ) 4 yX10_sure cX10_sure 2 (some .int) [.ref (ad 0), .int x1] σ res := by
  refine cmi_body (own := RX10) (lv := [(0, .ref (ad 0)), (1, .int x1)]) (by decide) rfl (wX_addr _ _ _ _ _) (Nat.le_of_ble_eq_true rfl) rfl (fun p e s m args below meth c A C hr => ?_)
  unfold fX10_sure at h
  refine g_aload_n C dX10_sure_0 rfl 0 rfl 1 rfl ?_
  refine wgX10_37_0 C dX10_sure_1 4 rfl ?_
  refine g_iload_n C dX10_sure_4 rfl 1 rfl 5 rfl ?_
  obtain ⟨q_1, hq_1, h⟩ := o_bind h
  refine wcX10_162_X_19 C (kX4_hasReport hq_1) (by decide) (Nat.le_of_ble_eq_true rfl) dX10_sure_5 8 rfl ?_
  refine g_if_ne C 13 dX10_sure_8 (by decide) 11 rfl (fun c_2 => ?_) (fun c_2 => ?_)
  · have h := o_neg h c_2
    refine g_aload_n C dX10_sure_13 rfl 0 rfl 14 rfl ?_
    refine wgX10_76_0 C dX10_sure_14 17 rfl ?_
    refine g_iload_n C dX10_sure_17 rfl 1 rfl 18 rfl ?_
    obtain ⟨q_3, hq_3, h⟩ := o_bind h
    refine wcX10_196_X_58 C (kX1_soonestEndOf hq_3) (by decide) (Nat.le_of_ble_eq_true rfl) dX10_sure_18 21 rfl ?_
    refine g_aload_n C dX10_sure_21 rfl 0 rfl 22 rfl ?_
    refine wgX10_37_0 C dX10_sure_22 25 rfl ?_
    refine wgX10_199_19 C dX10_sure_25 28 rfl ?_
    refine g_iload_n C dX10_sure_28 rfl 1 rfl 29 rfl ?_
    obtain ⟨c_4, h⟩ := o_chk h
    refine wlX_22 C c_4 dX10_sure_29 30 rfl ?_
    refine g_icmp_le C 37 dX10_sure_30 (by decide) 33 rfl (fun c_5 => ?_) (fun c_5 => ?_)
    · have h := o_pos h c_5
      refine g_iconst C (v := 0) dX10_sure_37 (by decide) 38 rfl ?_
      exact g_iret C hr dX10_sure_38 h
    · have h := o_neg h c_5
      refine g_iconst C (v := 1) dX10_sure_33 (by decide) 34 rfl ?_
      refine g_goto C 38 dX10_sure_34 (by decide) ?_
      exact g_iret C hr dX10_sure_38 h
  · have h := o_pos h c_2
    refine g_iconst C (v := -1) dX10_sure_11 (by decide) 12 rfl ?_
    exact g_iret C hr dX10_sure_12 h
end WK
/-! X10_step public int step(int, int); -/
def fX10_step (x1 : Int32) (x2 : Int32) (σ : ST) : Option (Int32 × ST) :=
  (Option.bind (fX4_hasStep x1 σ) (fun q_1 => (if q_1.1 = 0 then (some ((-1 : Int32), q_1.2)) else (if x2 = (0 : Int32) then (Option.bind (fX4_isReport x1 q_1.2) (fun q_12 => (if q_12.1 = 0 then (some ((0 : Int32), q_12.2)) else (some ((1 : Int32), q_12.2))))) else (if x2 = (1 : Int32) then (if ix x1 7 then (some (ldA q_1.2 21 x1, q_1.2)) else none) else (if x2 = (2 : Int32) then (if ix x1 7 then (some (ldA q_1.2 22 x1, q_1.2)) else none) else (if x2 = (3 : Int32) then (if ix x1 7 then (some (ldA q_1.2 23 x1, q_1.2)) else none) else (if x2 = (4 : Int32) then (if ix x1 7 then (some (ldA q_1.2 26 x1, q_1.2)) else none) else (if x2 = (5 : Int32) then (Option.bind (fX9_isDone x1 q_1.2) (fun q_18 => (if q_18.1 = 0 then (Option.bind (fX9_isUnderWay x1 q_18.2) (fun q_20 => (if q_20.1 = 0 then (some ((0 : Int32), q_20.2)) else (some ((1 : Int32), q_20.2))))) else (some ((2 : Int32), q_18.2))))) else (if x2 = (6 : Int32) then (Option.bind (fX9_isDone x1 q_1.2) (fun q_22 => (if q_22.1 = 0 then (some ((-1 : Int32), q_22.2)) else (if ix x1 7 then (some (ldA q_22.2 55 x1, q_22.2)) else none)))) else (if x2 = (7 : Int32) then (if ix x1 7 then (some (ldA q_1.2 56 x1, q_1.2)) else none) else (if x2 = (8 : Int32) then (Option.bind (fX9_isUnderWay x1 q_1.2) (fun q_26 => (if q_26.1 = 0 then (some ((0 : Int32), q_26.2)) else (if ix x1 7 then (some (ldA q_26.2 57 x1, q_26.2)) else none)))) else (some ((-1 : Int32), q_1.2))))))))))))))
section WK
variable {p : Program} {l : Launch} {e : Env} {R : Room} {s : State} {m : MethodId} {args : Array Value} {below : List Frame} {meth : Method} {c : Code} {Q : State → Prop}
variable {D : va_G} {ad : Nat → Nat} {cI cJ cB cZ : ClassId} {A : Nat → Prop} {cc : ByteArray} {nL lev : Nat}
variable {σ : ST} {pc : Nat} {lv : List (Nat × Value)} {st : List Value}
set_option maxHeartbeats 4000000 in
set_option maxRecDepth 100000 in
theorem kX10_step {l : Launch} {D : va_G} {ad : Nat → Nat} {cI cJ cB cZ : ClassId}  {x1 : Int32} {x2 : Int32} {σ : ST} {res : Int32 × ST} (h : fX10_step x1 x2 σ = some res) : CMi l D (tyz cI cJ cB cZ) (wX ad cI cJ cB cZ) 1 yX10_step cX10_step 3 (some .int) [.ref (ad 0), .int x1, .int x2] σ res := by
  refine cmi_body (own := RX10) (lv := [(0, .ref (ad 0)), (1, .int x1), (2, .int x2)]) (by decide) rfl (wX_addr _ _ _ _ _) (Nat.le_of_ble_eq_true rfl) rfl (fun p e s m args below meth c A C hr => ?_)
  unfold fX10_step at h
  refine g_aload_n C dX10_step_0 rfl 0 rfl 1 rfl ?_
  refine wgX10_37_0 C dX10_step_1 4 rfl ?_
  refine g_iload_n C dX10_step_4 rfl 1 rfl 5 rfl ?_
  obtain ⟨q_1, hq_1, h⟩ := o_bind h
  refine wcX10_187_X_19 C (kX4_hasStep hq_1) (by decide) (Nat.le_of_ble_eq_true rfl) dX10_step_5 8 rfl ?_
  refine g_if_ne C 13 dX10_step_8 (by decide) 11 rfl (fun c_2 => ?_) (fun c_2 => ?_)
  · have h := o_neg h c_2
    refine g_iload_n C dX10_step_13 rfl 2 rfl 14 rfl ?_
    rcases o_ite h with ⟨c_3, h⟩ | ⟨c_3, h⟩
    · refine g_tabIn C (off := 50) 64 dX10_step_14 (by rw [c_3]; decide) (by rw [c_3]; decide) (by rw [c_3]; decide) (by decide) ?_
      refine g_aload_n C dX10_step_64 rfl 0 rfl 65 rfl ?_
      refine wgX10_37_0 C dX10_step_65 68 rfl ?_
      refine g_iload_n C dX10_step_68 rfl 1 rfl 69 rfl ?_
      obtain ⟨q_12, hq_12, h⟩ := o_bind h
      refine wcX10_202_X_19 C (kX4_isReport hq_12) (by decide) (Nat.le_of_ble_eq_true rfl) dX10_step_69 72 rfl ?_
      refine g_if_eq C 79 dX10_step_72 (by decide) 75 rfl (fun c_13 => ?_) (fun c_13 => ?_)
      · have h := o_pos h c_13
        refine g_iconst C (v := 0) dX10_step_79 (by decide) 80 rfl ?_
        exact g_iret C hr dX10_step_80 h
      · have h := o_neg h c_13
        refine g_iconst C (v := 1) dX10_step_75 (by decide) 76 rfl ?_
        refine g_goto C 80 dX10_step_76 (by decide) ?_
        exact g_iret C hr dX10_step_80 h
    rcases o_ite h with ⟨c_4, h⟩ | ⟨c_4, h⟩
    · refine g_tabIn C (off := 67) 81 dX10_step_14 (by rw [c_4]; decide) (by rw [c_4]; decide) (by rw [c_4]; decide) (by decide) ?_
      refine g_aload_n C dX10_step_81 rfl 0 rfl 82 rfl ?_
      refine wgX10_37_0 C dX10_step_82 85 rfl ?_
      refine wgX10_205_19 C dX10_step_85 88 rfl ?_
      refine g_iload_n C dX10_step_88 rfl 1 rfl 89 rfl ?_
      obtain ⟨c_14, h⟩ := o_chk h
      refine wlX_21 C c_14 dX10_step_89 90 rfl ?_
      exact g_iret C hr dX10_step_90 h
    rcases o_ite h with ⟨c_5, h⟩ | ⟨c_5, h⟩
    · refine g_tabIn C (off := 77) 91 dX10_step_14 (by rw [c_5]; decide) (by rw [c_5]; decide) (by rw [c_5]; decide) (by decide) ?_
      refine g_aload_n C dX10_step_91 rfl 0 rfl 92 rfl ?_
      refine wgX10_37_0 C dX10_step_92 95 rfl ?_
      refine wgX10_199_19 C dX10_step_95 98 rfl ?_
      refine g_iload_n C dX10_step_98 rfl 1 rfl 99 rfl ?_
      obtain ⟨c_15, h⟩ := o_chk h
      refine wlX_22 C c_15 dX10_step_99 100 rfl ?_
      exact g_iret C hr dX10_step_100 h
    rcases o_ite h with ⟨c_6, h⟩ | ⟨c_6, h⟩
    · refine g_tabIn C (off := 87) 101 dX10_step_14 (by rw [c_6]; decide) (by rw [c_6]; decide) (by rw [c_6]; decide) (by decide) ?_
      refine g_aload_n C dX10_step_101 rfl 0 rfl 102 rfl ?_
      refine wgX10_37_0 C dX10_step_102 105 rfl ?_
      refine wgX10_208_19 C dX10_step_105 108 rfl ?_
      refine g_iload_n C dX10_step_108 rfl 1 rfl 109 rfl ?_
      obtain ⟨c_16, h⟩ := o_chk h
      refine wlX_23 C c_16 dX10_step_109 110 rfl ?_
      exact g_iret C hr dX10_step_110 h
    rcases o_ite h with ⟨c_7, h⟩ | ⟨c_7, h⟩
    · refine g_tabIn C (off := 97) 111 dX10_step_14 (by rw [c_7]; decide) (by rw [c_7]; decide) (by rw [c_7]; decide) (by decide) ?_
      refine g_aload_n C dX10_step_111 rfl 0 rfl 112 rfl ?_
      refine wgX10_37_0 C dX10_step_112 115 rfl ?_
      refine wgX10_211_19 C dX10_step_115 118 rfl ?_
      refine g_iload_n C dX10_step_118 rfl 1 rfl 119 rfl ?_
      obtain ⟨c_17, h⟩ := o_chk h
      refine wlX_26 C c_17 dX10_step_119 120 rfl ?_
      exact g_iret C hr dX10_step_120 h
    rcases o_ite h with ⟨c_8, h⟩ | ⟨c_8, h⟩
    · refine g_tabIn C (off := 107) 121 dX10_step_14 (by rw [c_8]; decide) (by rw [c_8]; decide) (by rw [c_8]; decide) (by decide) ?_
      refine g_aload_n C dX10_step_121 rfl 0 rfl 122 rfl ?_
      refine wgX10_67_0 C dX10_step_122 125 rfl ?_
      refine g_iload_n C dX10_step_125 rfl 1 rfl 126 rfl ?_
      obtain ⟨q_18, hq_18, h⟩ := o_bind h
      refine wcX10_214_X_52 C (kX9_isDone hq_18) (by decide) (Nat.le_of_ble_eq_true rfl) dX10_step_126 129 rfl ?_
      refine g_if_eq C 136 dX10_step_129 (by decide) 132 rfl (fun c_19 => ?_) (fun c_19 => ?_)
      · have h := o_pos h c_19
        refine g_aload_n C dX10_step_136 rfl 0 rfl 137 rfl ?_
        refine wgX10_67_0 C dX10_step_137 140 rfl ?_
        refine g_iload_n C dX10_step_140 rfl 1 rfl 141 rfl ?_
        obtain ⟨q_20, hq_20, h⟩ := o_bind h
        refine wcX10_217_X_52 C (kX9_isUnderWay hq_20) (by decide) (Nat.le_of_ble_eq_true rfl) dX10_step_141 144 rfl ?_
        refine g_if_eq C 151 dX10_step_144 (by decide) 147 rfl (fun c_21 => ?_) (fun c_21 => ?_)
        · have h := o_pos h c_21
          refine g_iconst C (v := 0) dX10_step_151 (by decide) 152 rfl ?_
          exact g_iret C hr dX10_step_152 h
        · have h := o_neg h c_21
          refine g_iconst C (v := 1) dX10_step_147 (by decide) 148 rfl ?_
          refine g_goto C 152 dX10_step_148 (by decide) ?_
          exact g_iret C hr dX10_step_152 h
      · have h := o_neg h c_19
        refine g_iconst C (v := 2) dX10_step_132 (by decide) 133 rfl ?_
        refine g_goto C 152 dX10_step_133 (by decide) ?_
        exact g_iret C hr dX10_step_152 h
    rcases o_ite h with ⟨c_9, h⟩ | ⟨c_9, h⟩
    · refine g_tabIn C (off := 139) 153 dX10_step_14 (by rw [c_9]; decide) (by rw [c_9]; decide) (by rw [c_9]; decide) (by decide) ?_
      refine g_aload_n C dX10_step_153 rfl 0 rfl 154 rfl ?_
      refine wgX10_67_0 C dX10_step_154 157 rfl ?_
      refine g_iload_n C dX10_step_157 rfl 1 rfl 158 rfl ?_
      obtain ⟨q_22, hq_22, h⟩ := o_bind h
      refine wcX10_214_X_52 C (kX9_isDone hq_22) (by decide) (Nat.le_of_ble_eq_true rfl) dX10_step_158 161 rfl ?_
      refine g_if_eq C 176 dX10_step_161 (by decide) 164 rfl (fun c_23 => ?_) (fun c_23 => ?_)
      · have h := o_pos h c_23
        refine g_iconst C (v := -1) dX10_step_176 (by decide) 177 rfl ?_
        exact g_iret C hr dX10_step_177 h
      · have h := o_neg h c_23
        refine g_aload_n C dX10_step_164 rfl 0 rfl 165 rfl ?_
        refine wgX10_67_0 C dX10_step_165 168 rfl ?_
        refine wgX10_220_52 C dX10_step_168 171 rfl ?_
        refine g_iload_n C dX10_step_171 rfl 1 rfl 172 rfl ?_
        obtain ⟨c_24, h⟩ := o_chk h
        refine wlX_55 C c_24 dX10_step_172 173 rfl ?_
        refine g_goto C 177 dX10_step_173 (by decide) ?_
        exact g_iret C hr dX10_step_177 h
    rcases o_ite h with ⟨c_10, h⟩ | ⟨c_10, h⟩
    · refine g_tabIn C (off := 164) 178 dX10_step_14 (by rw [c_10]; decide) (by rw [c_10]; decide) (by rw [c_10]; decide) (by decide) ?_
      refine g_aload_n C dX10_step_178 rfl 0 rfl 179 rfl ?_
      refine wgX10_67_0 C dX10_step_179 182 rfl ?_
      refine wgX10_223_52 C dX10_step_182 185 rfl ?_
      refine g_iload_n C dX10_step_185 rfl 1 rfl 186 rfl ?_
      obtain ⟨c_25, h⟩ := o_chk h
      refine wlX_56 C c_25 dX10_step_186 187 rfl ?_
      exact g_iret C hr dX10_step_187 h
    rcases o_ite h with ⟨c_11, h⟩ | ⟨c_11, h⟩
    · refine g_tabIn C (off := 174) 188 dX10_step_14 (by rw [c_11]; decide) (by rw [c_11]; decide) (by rw [c_11]; decide) (by decide) ?_
      refine g_aload_n C dX10_step_188 rfl 0 rfl 189 rfl ?_
      refine wgX10_67_0 C dX10_step_189 192 rfl ?_
      refine g_iload_n C dX10_step_192 rfl 1 rfl 193 rfl ?_
      obtain ⟨q_26, hq_26, h⟩ := o_bind h
      refine wcX10_217_X_52 C (kX9_isUnderWay hq_26) (by decide) (Nat.le_of_ble_eq_true rfl) dX10_step_193 196 rfl ?_
      refine g_if_eq C 211 dX10_step_196 (by decide) 199 rfl (fun c_27 => ?_) (fun c_27 => ?_)
      · have h := o_pos h c_27
        refine g_iconst C (v := 0) dX10_step_211 (by decide) 212 rfl ?_
        exact g_iret C hr dX10_step_212 h
      · have h := o_neg h c_27
        refine g_aload_n C dX10_step_199 rfl 0 rfl 200 rfl ?_
        refine wgX10_67_0 C dX10_step_200 203 rfl ?_
        refine wgX10_226_52 C dX10_step_203 206 rfl ?_
        refine g_iload_n C dX10_step_206 rfl 1 rfl 207 rfl ?_
        obtain ⟨c_28, h⟩ := o_chk h
        refine wlX_57 C c_28 dX10_step_207 208 rfl ?_
        refine g_goto C 212 dX10_step_208 (by decide) ?_
        exact g_iret C hr dX10_step_212 h
    refine g_tabOut C 213 dX10_step_14 (by have z0 := lv_neT c_3 (a := 0) (by decide); have z1 := lv_neT c_4 (a := 1) (by decide); have z2 := lv_neT c_5 (a := 2) (by decide); have z3 := lv_neT c_6 (a := 3) (by decide); have z4 := lv_neT c_7 (a := 4) (by decide); have z5 := lv_neT c_8 (a := 5) (by decide); have z6 := lv_neT c_9 (a := 6) (by decide); have z7 := lv_neT c_10 (a := 7) (by decide); have z8 := lv_neT c_11 (a := 8) (by decide); omega) (by decide) ?_
    refine g_iconst C (v := -1) dX10_step_213 (by decide) 214 rfl ?_
    exact g_iret C hr dX10_step_214 h
  · have h := o_pos h c_2
    refine g_iconst C (v := -1) dX10_step_11 (by decide) 12 rfl ?_
    exact g_iret C hr dX10_step_12 h
end WK
/-! X10_value public long value(int, int); -/
def fX10_value (x1 : Int32) (x2 : Int32) (σ : ST) : Option (Int64 × ST) :=
  (Option.bind (fX4_hasStep x1 σ) (fun q_1 => (if q_1.1 = 0 then (some ((0 : Int64), q_1.2)) else (Option.bind (fX10_isBelow x2 ((8 : Int32)) q_1.2) (fun q_3 => (if q_3.1 = 0 then (some ((0 : Int64), q_3.2)) else (Option.bind (fX9_isDone x1 q_3.2) (fun q_5 => (if q_5.1 = 0 then (some ((0 : Int64), q_5.2)) else (if ix ((x1 * ((8 : Int32))) + x2) 56 then (some (ldB q_5.2 45 ((x1 * ((8 : Int32))) + x2), q_5.2)) else none))))))))))
section WK
variable {p : Program} {l : Launch} {e : Env} {R : Room} {s : State} {m : MethodId} {args : Array Value} {below : List Frame} {meth : Method} {c : Code} {Q : State → Prop}
variable {D : va_G} {ad : Nat → Nat} {cI cJ cB cZ : ClassId} {A : Nat → Prop} {cc : ByteArray} {nL lev : Nat}
variable {σ : ST} {pc : Nat} {lv : List (Nat × Value)} {st : List Value}
set_option maxHeartbeats 4000000 in
set_option maxRecDepth 100000 in
theorem kX10_value {l : Launch} {D : va_G} {ad : Nat → Nat} {cI cJ cB cZ : ClassId}  {x1 : Int32} {x2 : Int32} {σ : ST} {res : Int64 × ST} (h : fX10_value x1 x2 σ = some res) : CMl l D (tyz cI cJ cB cZ) (wX ad cI cJ cB cZ) 1 yX10_value cX10_value 3 (some .long) [.ref (ad 0), .int x1, .int x2] σ res := by
  refine cml_body (own := RX10) (lv := [(0, .ref (ad 0)), (1, .int x1), (2, .int x2)]) (by decide) rfl (wX_addr _ _ _ _ _) (Nat.le_of_ble_eq_true rfl) rfl (fun p e s m args below meth c A C hr => ?_)
  unfold fX10_value at h
  refine g_aload_n C dX10_value_0 rfl 0 rfl 1 rfl ?_
  refine wgX10_37_0 C dX10_value_1 4 rfl ?_
  refine g_iload_n C dX10_value_4 rfl 1 rfl 5 rfl ?_
  obtain ⟨q_1, hq_1, h⟩ := o_bind h
  refine wcX10_187_X_19 C (kX4_hasStep hq_1) (by decide) (Nat.le_of_ble_eq_true rfl) dX10_value_5 8 rfl ?_
  refine g_if_eq C 31 dX10_value_8 (by decide) 11 rfl (fun c_2 => ?_) (fun c_2 => ?_)
  · have h := o_pos h c_2
    refine g_lconst C (v := 0) dX10_value_31 (by decide) 32 rfl ?_
    exact g_lret C hr dX10_value_32 h
  · have h := o_neg h c_2
    refine g_iload_n C dX10_value_11 rfl 2 rfl 12 rfl ?_
    refine g_bipush C (v := 8) dX10_value_12 (by decide) 14 rfl ?_
    obtain ⟨q_3, hq_3, h⟩ := o_bind h
    refine wcX10_111_X C (kX10_isBelow hq_3) (by decide) (Nat.le_of_ble_eq_true rfl) dX10_value_14 17 rfl ?_
    refine g_if_eq C 31 dX10_value_17 (by decide) 20 rfl (fun c_4 => ?_) (fun c_4 => ?_)
    · have h := o_pos h c_4
      refine g_lconst C (v := 0) dX10_value_31 (by decide) 32 rfl ?_
      exact g_lret C hr dX10_value_32 h
    · have h := o_neg h c_4
      refine g_aload_n C dX10_value_20 rfl 0 rfl 21 rfl ?_
      refine wgX10_67_0 C dX10_value_21 24 rfl ?_
      refine g_iload_n C dX10_value_24 rfl 1 rfl 25 rfl ?_
      obtain ⟨q_5, hq_5, h⟩ := o_bind h
      refine wcX10_214_X_52 C (kX9_isDone hq_5) (by decide) (Nat.le_of_ble_eq_true rfl) dX10_value_25 28 rfl ?_
      refine g_if_ne C 33 dX10_value_28 (by decide) 31 rfl (fun c_6 => ?_) (fun c_6 => ?_)
      · have h := o_neg h c_6
        refine g_aload_n C dX10_value_33 rfl 0 rfl 34 rfl ?_
        refine wgX10_67_0 C dX10_value_34 37 rfl ?_
        refine wgX10_229_52 C dX10_value_37 40 rfl ?_
        refine wgX10_233_44 C dX10_value_40 43 rfl ?_
        refine g_iload_n C dX10_value_43 rfl 1 rfl 44 rfl ?_
        refine g_bipush C (v := 8) dX10_value_44 (by decide) 46 rfl ?_
        refine g_imul C dX10_value_46 47 rfl ?_
        refine g_iload_n C dX10_value_47 rfl 2 rfl 48 rfl ?_
        refine g_iadd C dX10_value_48 49 rfl ?_
        obtain ⟨c_7, h⟩ := o_chk h
        refine wlX_45 C c_7 dX10_value_49 50 rfl ?_
        exact g_lret C hr dX10_value_50 h
      · have h := o_pos h c_6
        refine g_lconst C (v := 0) dX10_value_31 (by decide) 32 rfl ?_
        exact g_lret C hr dX10_value_32 h
end WK
/-! X3_sumOfLast long sumOfLast(int, int); -/
def fX3_sumOfLast_L23  : Nat → Int32 → Int32 → Int64 → Int32 → ST → Option (Int64 × ST)
  | 0, _, _, _, _, _ => none
  | n + 1, x1, x2, x3, x5, σ => (if ((8 : Int32)) ≤ x5 then (some (x3, σ)) else (Option.bind (fX3_cell x1 x2 σ) (fun q_8 => (if ix ((q_8.1 * ((8 : Int32))) + x5) 336 then (lt (x3 + (ldB q_8.2 51 ((q_8.1 * ((8 : Int32))) + x5))) (fun x3_10 => (lt (x5 + 1) (fun x5_11 => (fX3_sumOfLast_L23 n x1 x2 x3_10 x5_11 q_8.2))))) else none))))
def fX3_sumOfLast (n : Nat) (x1 : Int32) (x2 : Int32) (σ : ST) : Option (Int64 × ST) :=
  (lt ((0 : Int64)) (fun x3_1 => (Option.bind (fX10_isBelow x1 ((7 : Int32)) σ) (fun q_2 => (if q_2.1 = 0 then (some (x3_1, q_2.2)) else (Option.bind (fX10_isBelow x2 ((6 : Int32)) q_2.2) (fun q_4 => (if q_4.1 = 0 then (some (x3_1, q_4.2)) else (lt ((0 : Int32)) (fun x5_6 => (fX3_sumOfLast_L23 n x1 x2 x3_1 x5_6 q_4.2)))))))))))
section WK
variable {p : Program} {l : Launch} {e : Env} {R : Room} {s : State} {m : MethodId} {args : Array Value} {below : List Frame} {meth : Method} {c : Code} {Q : State → Prop}
variable {D : va_G} {ad : Nat → Nat} {cI cJ cB cZ : ClassId} {A : Nat → Prop} {cc : ByteArray} {nL lev : Nat}
variable {σ : ST} {pc : Nat} {lv : List (Nat × Value)} {st : List Value}
set_option maxHeartbeats 4000000 in
set_option maxRecDepth 100000 in
theorem kX3_sumOfLast_L23 (C : Ctx p l e (rmL 1) s m args below meth c D (tyz cI cJ cB cZ) (wX ad cI cJ cB cZ) A cX3_sumOfLast 6 1 RX3) (hr : meth.sig.returnType = some .long) {res : Int64 × ST}   : ∀ (n : Nat) (x1 : Int32) (x2 : Int32) (x3 : Int64) (x5 : Int32) (σ : ST), fX3_sumOfLast_L23 n x1 x2 x3 x5 σ = some res → G p l e (rmL 1) s m args below meth c (MQ below (Ql D (tyz cI cJ cB cZ) (wX ad cI cJ cB cZ) A res) args s 0 0 A) D (wX ad cI cJ cB cZ) A 6 σ 23 [(0, .ref (ad 47)), (1, .int x1), (2, .int x2), (3, .long x3), (5, .int x5)] [] := by
  intro n
  induction n with
  | zero => intro x1 x2 x3 x5 σ h; have h : none = some res := h; cases h
  | succ n ih =>
    intro x1 x2 x3 x5 σ h
    rw [fX3_sumOfLast_L23] at h
    refine g_iload C dX3_sumOfLast_23 4 rfl 25 rfl ?_
    refine g_bipush C (v := 8) dX3_sumOfLast_25 (by decide) 27 rfl ?_
    refine g_icmp_ge C 55 dX3_sumOfLast_27 (by decide) 30 rfl (fun c_7 => ?_) (fun c_7 => ?_)
    · have h := o_pos h c_7
      refine g_lload_n C dX3_sumOfLast_55 rfl 3 rfl 56 rfl ?_
      exact g_lret C hr dX3_sumOfLast_56 h
    · have h := o_neg h c_7
      refine g_lload_n C dX3_sumOfLast_30 rfl 3 rfl 31 rfl ?_
      refine g_aload_n C dX3_sumOfLast_31 rfl 0 rfl 32 rfl ?_
      refine wgX3_31_47 C dX3_sumOfLast_32 35 rfl ?_
      refine g_iload_n C dX3_sumOfLast_35 rfl 1 rfl 36 rfl ?_
      refine g_iload_n C dX3_sumOfLast_36 rfl 2 rfl 37 rfl ?_
      obtain ⟨q_8, hq_8, h⟩ := o_bind h
      refine wcX3_54_X C (kX3_cell hq_8) (by decide) (Nat.le_of_ble_eq_true rfl) dX3_sumOfLast_37 40 rfl ?_
      refine g_bipush C (v := 8) dX3_sumOfLast_40 (by decide) 42 rfl ?_
      refine g_imul C dX3_sumOfLast_42 43 rfl ?_
      refine g_iload C dX3_sumOfLast_43 4 rfl 45 rfl ?_
      refine g_iadd C dX3_sumOfLast_45 46 rfl ?_
      obtain ⟨c_9, h⟩ := o_chk h
      refine wlX_51 C c_9 dX3_sumOfLast_46 47 rfl ?_
      refine g_ladd C dX3_sumOfLast_47 48 rfl ?_
      obtain ⟨x3_10, ex3_10, h⟩ := o_lt h
      refine g_lstore_n C (lv' := [(3, .long x3_10), (0, .ref (ad 47)), (1, .int x1), (2, .int x2), (5, .int x5)]) ex3_10 dX3_sumOfLast_48 rfl (by decide) rfl 49 rfl ?_
      obtain ⟨x5_11, ex5_11, h⟩ := o_lt h
      refine g_iinc C (lv' := [(5, .int x5_11), (3, .long x3_10), (0, .ref (ad 47)), (1, .int x1), (2, .int x2)]) ex5_11 dX3_sumOfLast_49 4 rfl (by decide) (by decide) rfl 52 rfl ?_
      refine g_goto C 23 dX3_sumOfLast_52 (by decide) ?_
      exact g_sub C [2, 3, 4, 1, 0] rfl (ih x1 x2 x3_10 x5_11 q_8.2 h)
set_option maxHeartbeats 4000000 in
set_option maxRecDepth 100000 in
theorem kX3_sumOfLast {l : Launch} {D : va_G} {ad : Nat → Nat} {cI cJ cB cZ : ClassId}  {n : Nat} {x1 : Int32} {x2 : Int32} {σ : ST} {res : Int64 × ST} (h : fX3_sumOfLast n x1 x2 σ = some res) : CMl l D (tyz cI cJ cB cZ) (wX ad cI cJ cB cZ) 1 yX3_sumOfLast cX3_sumOfLast 6 (some .long) [.ref (ad 47), .int x1, .int x2] σ res := by
  refine cml_body (own := RX3) (lv := [(0, .ref (ad 47)), (1, .int x1), (2, .int x2)]) (by decide) rfl (wX_addr _ _ _ _ _) (Nat.le_of_ble_eq_true rfl) rfl (fun p e s m args below meth c A C hr => ?_)
  unfold fX3_sumOfLast at h
  refine g_lconst C (v := 0) dX3_sumOfLast_0 (by decide) 1 rfl ?_
  obtain ⟨x3_1, ex3_1, h⟩ := o_lt h
  refine g_lstore_n C (lv' := [(3, .long x3_1), (0, .ref (ad 47)), (1, .int x1), (2, .int x2)]) ex3_1 dX3_sumOfLast_1 rfl (by decide) rfl 2 rfl ?_
  refine g_iload_n C dX3_sumOfLast_2 rfl 2 rfl 3 rfl ?_
  refine g_bipush C (v := 7) dX3_sumOfLast_3 (by decide) 5 rfl ?_
  obtain ⟨q_2, hq_2, h⟩ := o_bind h
  refine wcX3_39_X C (kX10_isBelow hq_2) (by decide) (Nat.le_of_ble_eq_true rfl) dX3_sumOfLast_5 8 rfl ?_
  refine g_if_eq C 55 dX3_sumOfLast_8 (by decide) 11 rfl (fun c_3 => ?_) (fun c_3 => ?_)
  · have h := o_pos h c_3
    refine g_lload_n C dX3_sumOfLast_55 rfl 0 rfl 56 rfl ?_
    exact g_lret C hr dX3_sumOfLast_56 h
  · have h := o_neg h c_3
    refine g_iload_n C dX3_sumOfLast_11 rfl 3 rfl 12 rfl ?_
    refine g_bipush C (v := 6) dX3_sumOfLast_12 (by decide) 14 rfl ?_
    obtain ⟨q_4, hq_4, h⟩ := o_bind h
    refine wcX3_39_X C (kX10_isBelow hq_4) (by decide) (Nat.le_of_ble_eq_true rfl) dX3_sumOfLast_14 17 rfl ?_
    refine g_if_eq C 55 dX3_sumOfLast_17 (by decide) 20 rfl (fun c_5 => ?_) (fun c_5 => ?_)
    · have h := o_pos h c_5
      refine g_lload_n C dX3_sumOfLast_55 rfl 0 rfl 56 rfl ?_
      exact g_lret C hr dX3_sumOfLast_56 h
    · have h := o_neg h c_5
      refine g_iconst C (v := 0) dX3_sumOfLast_20 (by decide) 21 rfl ?_
      obtain ⟨x5_6, ex5_6, h⟩ := o_lt h
      refine g_istore C (lv' := [(5, .int x5_6), (3, .long x3_1), (0, .ref (ad 47)), (1, .int x1), (2, .int x2)]) ex5_6 dX3_sumOfLast_21 (by decide) rfl 23 rfl ?_
      exact g_sub C [2, 3, 4, 1, 0] rfl (kX3_sumOfLast_L23 C hr  n x1 x2 x3_1 x5_6 q_4.2 h)
end WK
/-! X10_sent public long sent(int, int, int); -/
def fX10_sent (n : Nat) (x1 : Int32) (x2 : Int32) (x3 : Int32) (σ : ST) : Option (Int64 × ST) :=
  (Option.bind (fX4_hasReport x1 σ) (fun q_1 => (if q_1.1 = 0 then (some ((0 : Int64), q_1.2)) else (Option.bind (fX3_hasReader x2 q_1.2) (fun q_3 => (if q_3.1 = 0 then (some ((0 : Int64), q_3.2)) else (if x3 = ((-1 : Int32)) then (Option.bind (fX3_sumOfLast n x1 x2 q_3.2) (fun q_10 => (some (q_10.1, q_10.2)))) else (Option.bind (fX10_isBelow x3 ((8 : Int32)) q_3.2) (fun q_6 => (if q_6.1 = 0 then (some ((0 : Int64), q_6.2)) else (Option.bind (fX3_cell x1 x2 q_6.2) (fun q_8 => (if ix ((q_8.1 * ((8 : Int32))) + x3) 336 then (some (ldB q_8.2 51 ((q_8.1 * ((8 : Int32))) + x3), q_8.2)) else none)))))))))))))
section WK
variable {p : Program} {l : Launch} {e : Env} {R : Room} {s : State} {m : MethodId} {args : Array Value} {below : List Frame} {meth : Method} {c : Code} {Q : State → Prop}
variable {D : va_G} {ad : Nat → Nat} {cI cJ cB cZ : ClassId} {A : Nat → Prop} {cc : ByteArray} {nL lev : Nat}
variable {σ : ST} {pc : Nat} {lv : List (Nat × Value)} {st : List Value}
set_option maxHeartbeats 4000000 in
set_option maxRecDepth 100000 in
theorem kX10_sent {l : Launch} {D : va_G} {ad : Nat → Nat} {cI cJ cB cZ : ClassId}  {n : Nat} {x1 : Int32} {x2 : Int32} {x3 : Int32} {σ : ST} {res : Int64 × ST} (h : fX10_sent n x1 x2 x3 σ = some res) : CMl l D (tyz cI cJ cB cZ) (wX ad cI cJ cB cZ) 2 yX10_sent cX10_sent 4 (some .long) [.ref (ad 0), .int x1, .int x2, .int x3] σ res := by
  refine cml_body (own := RX10) (lv := [(0, .ref (ad 0)), (1, .int x1), (2, .int x2), (3, .int x3)]) (by decide) rfl (wX_addr _ _ _ _ _) (Nat.le_of_ble_eq_true rfl) rfl (fun p e s m args below meth c A C hr => ?_)
  unfold fX10_sent at h
  refine g_aload_n C dX10_sent_0 rfl 0 rfl 1 rfl ?_
  refine wgX10_37_0 C dX10_sent_1 4 rfl ?_
  refine g_iload_n C dX10_sent_4 rfl 1 rfl 5 rfl ?_
  obtain ⟨q_1, hq_1, h⟩ := o_bind h
  refine wcX10_162_X_19 C (kX4_hasReport hq_1) (by decide) (Nat.le_of_ble_eq_true rfl) dX10_sent_5 8 rfl ?_
  refine g_if_eq C 22 dX10_sent_8 (by decide) 11 rfl (fun c_2 => ?_) (fun c_2 => ?_)
  · have h := o_pos h c_2
    refine g_lconst C (v := 0) dX10_sent_22 (by decide) 23 rfl ?_
    exact g_lret C hr dX10_sent_23 h
  · have h := o_neg h c_2
    refine g_aload_n C dX10_sent_11 rfl 0 rfl 12 rfl ?_
    refine wgX10_58_0 C dX10_sent_12 15 rfl ?_
    refine g_iload_n C dX10_sent_15 rfl 2 rfl 16 rfl ?_
    obtain ⟨q_3, hq_3, h⟩ := o_bind h
    refine wcX10_142_X_47 C (kX3_hasReader hq_3) (by decide) (Nat.le_of_ble_eq_true rfl) dX10_sent_16 19 rfl ?_
    refine g_if_ne C 24 dX10_sent_19 (by decide) 22 rfl (fun c_4 => ?_) (fun c_4 => ?_)
    · have h := o_neg h c_4
      refine g_iload_n C dX10_sent_24 rfl 3 rfl 25 rfl ?_
      refine g_iconst C (v := -1) dX10_sent_25 (by decide) 26 rfl ?_
      refine g_icmp_ne C 39 dX10_sent_26 (by decide) 29 rfl (fun c_5 => ?_) (fun c_5 => ?_)
      · have h := o_neg h c_5
        refine g_iload_n C dX10_sent_39 rfl 3 rfl 40 rfl ?_
        refine g_bipush C (v := 8) dX10_sent_40 (by decide) 42 rfl ?_
        obtain ⟨q_6, hq_6, h⟩ := o_bind h
        refine wcX10_111_X C (kX10_isBelow hq_6) (by decide) (Nat.le_of_ble_eq_true rfl) dX10_sent_42 45 rfl ?_
        refine g_if_eq C 69 dX10_sent_45 (by decide) 48 rfl (fun c_7 => ?_) (fun c_7 => ?_)
        · have h := o_pos h c_7
          refine g_lconst C (v := 0) dX10_sent_69 (by decide) 70 rfl ?_
          exact g_lret C hr dX10_sent_70 h
        · have h := o_neg h c_7
          refine g_aload_n C dX10_sent_48 rfl 0 rfl 49 rfl ?_
          refine wgX10_58_0 C dX10_sent_49 52 rfl ?_
          refine wgX10_241_47 C dX10_sent_52 55 rfl ?_
          refine g_iload_n C dX10_sent_55 rfl 1 rfl 56 rfl ?_
          refine g_iload_n C dX10_sent_56 rfl 2 rfl 57 rfl ?_
          obtain ⟨q_8, hq_8, h⟩ := o_bind h
          refine wcX10_244_X C (kX3_cell hq_8) (by decide) (Nat.le_of_ble_eq_true rfl) dX10_sent_57 60 rfl ?_
          refine g_bipush C (v := 8) dX10_sent_60 (by decide) 62 rfl ?_
          refine g_imul C dX10_sent_62 63 rfl ?_
          refine g_iload_n C dX10_sent_63 rfl 3 rfl 64 rfl ?_
          refine g_iadd C dX10_sent_64 65 rfl ?_
          obtain ⟨c_9, h⟩ := o_chk h
          refine wlX_51 C c_9 dX10_sent_65 66 rfl ?_
          refine g_goto C 70 dX10_sent_66 (by decide) ?_
          exact g_lret C hr dX10_sent_70 h
      · have h := o_pos h c_5
        refine g_aload_n C dX10_sent_29 rfl 0 rfl 30 rfl ?_
        refine wgX10_58_0 C dX10_sent_30 33 rfl ?_
        refine g_iload_n C dX10_sent_33 rfl 1 rfl 34 rfl ?_
        refine g_iload_n C dX10_sent_34 rfl 2 rfl 35 rfl ?_
        obtain ⟨q_10, hq_10, h⟩ := o_bind h
        refine wcX10_237_X_47 C (kX3_sumOfLast hq_10) (by decide) (Nat.le_of_ble_eq_true rfl) dX10_sent_35 38 rfl ?_
        exact g_lret C hr dX10_sent_38 h
    · have h := o_pos h c_4
      refine g_lconst C (v := 0) dX10_sent_22 (by decide) 23 rfl ?_
      exact g_lret C hr dX10_sent_23 h
end WK
