/-! X9_workAt private void workAt(int); -/
def fX9_workAt (n : Nat) (x1 : Int32) (σ : ST) : Option (ST) :=
  (if ix x1 3 then (lt (ldA σ 53 x1) (fun x2_2 => (Option.bind (fX4_hasStep x2_2 σ) (fun q_3 => (if q_3.1 = 0 then (some q_3.2) else (if ix x2_2 7 then (if ix x2_2 7 then (lt (stA q_3.2 57 x2_2 ((ldA q_3.2 57 x2_2) + ((1 : Int32)))) (fun σ_7 => (if ix x2_2 7 then (if ix x2_2 7 then (if (ldA σ_7 57 x2_2) < (ldA σ_7 21 x2_2) then (some σ_7) else (if ix x1 3 then (lt (stA σ_7 53 x1 ((-1 : Int32))) (fun σ_12 => (Option.bind (fX9_finish n x2_2 σ_12) (fun q_13 => (some q_13))))) else none)) else none) else none))) else none) else none)))))) else none)
section WK
variable {p : Program} {l : Launch} {e : Env} {R : Room} {s : State} {m : MethodId} {args : Array Value} {below : List Frame} {meth : Method} {c : Code} {Q : State → Prop}
variable {D : va_G} {ad : Nat → Nat} {cI cJ cB cZ : ClassId} {A : Nat → Prop} {cc : ByteArray} {nL lev : Nat}
variable {σ : ST} {pc : Nat} {lv : List (Nat × Value)} {st : List Value}
set_option maxHeartbeats 4000000 in
set_option maxRecDepth 100000 in
theorem kX9_workAt {l : Launch} {D : va_G} {ad : Nat → Nat} {cI cJ cB cZ : ClassId}  {n : Nat} {x1 : Int32} {σ : ST} {res : ST} (h : fX9_workAt n x1 σ = some res) : CMv l D (tyz cI cJ cB cZ) (wX ad cI cJ cB cZ) 5 yX9_workAt cX9_workAt 3 none [.ref (ad 52), .int x1] σ res := by
  refine cmv_body (own := RX9) (lv := [(0, .ref (ad 52)), (1, .int x1)]) (by decide) rfl (wX_addr _ _ _ _ _) (Nat.le_of_ble_eq_true rfl) rfl (fun p e s m args below meth c A C hr => ?_)
  unfold fX9_workAt at h
  refine g_aload_n C dX9_workAt_0 rfl 0 rfl 1 rfl ?_
  refine wgX9_24_52 C dX9_workAt_1 4 rfl ?_
  refine g_iload_n C dX9_workAt_4 rfl 1 rfl 5 rfl ?_
  obtain ⟨c_1, h⟩ := o_chk h
  refine wlX_53 C c_1 dX9_workAt_5 6 rfl ?_
  obtain ⟨x2_2, ex2_2, h⟩ := o_lt h
  refine g_istore_n C (lv' := [(2, .int x2_2), (0, .ref (ad 52)), (1, .int x1)]) ex2_2 dX9_workAt_6 rfl (by decide) rfl 7 rfl ?_
  refine g_aload_n C dX9_workAt_7 rfl 1 rfl 8 rfl ?_
  refine wgX9_40_52 C dX9_workAt_8 11 rfl ?_
  refine g_iload_n C dX9_workAt_11 rfl 0 rfl 12 rfl ?_
  obtain ⟨q_3, hq_3, h⟩ := o_bind h
  refine wcX9_79_X_19 C (kX4_hasStep hq_3) (by decide) (Nat.le_of_ble_eq_true rfl) dX9_workAt_12 15 rfl ?_
  refine g_if_eq C 58 dX9_workAt_15 (by decide) 18 rfl (fun c_4 => ?_) (fun c_4 => ?_)
  · have h := o_pos h c_4
    exact g_vret C hr dX9_workAt_58 h
  · have h := o_neg h c_4
    refine g_aload_n C dX9_workAt_18 rfl 1 rfl 19 rfl ?_
    refine wgX9_37_52 C dX9_workAt_19 22 rfl ?_
    refine g_iload_n C dX9_workAt_22 rfl 0 rfl 23 rfl ?_
    refine g_dup2 C dX9_workAt_23 rfl rfl 24 rfl ?_
    obtain ⟨c_5, h⟩ := o_chk h
    refine wlX_57 C c_5 dX9_workAt_24 25 rfl ?_
    refine g_iconst C (v := 1) dX9_workAt_25 (by decide) 26 rfl ?_
    refine g_iadd C dX9_workAt_26 27 rfl ?_
    obtain ⟨c_6, h⟩ := o_chk h
    obtain ⟨σ_7, eσ_7, h⟩ := o_lt h
    refine wtX_57 C eσ_7 c_6 dX9_workAt_27 28 rfl ?_
    refine g_aload_n C dX9_workAt_28 rfl 1 rfl 29 rfl ?_
    refine wgX9_37_52 C dX9_workAt_29 32 rfl ?_
    refine g_iload_n C dX9_workAt_32 rfl 0 rfl 33 rfl ?_
    obtain ⟨c_8, h⟩ := o_chk h
    refine wlX_57 C c_8 dX9_workAt_33 34 rfl ?_
    refine g_aload_n C dX9_workAt_34 rfl 1 rfl 35 rfl ?_
    refine wgX9_40_52 C dX9_workAt_35 38 rfl ?_
    refine wgX9_99_19 C dX9_workAt_38 41 rfl ?_
    refine g_iload_n C dX9_workAt_41 rfl 0 rfl 42 rfl ?_
    obtain ⟨c_9, h⟩ := o_chk h
    refine wlX_21 C c_9 dX9_workAt_42 43 rfl ?_
    refine g_icmp_lt C 58 dX9_workAt_43 (by decide) 46 rfl (fun c_10 => ?_) (fun c_10 => ?_)
    · have h := o_pos h c_10
      exact g_vret C hr dX9_workAt_58 h
    · have h := o_neg h c_10
      refine g_aload_n C dX9_workAt_46 rfl 1 rfl 47 rfl ?_
      refine wgX9_24_52 C dX9_workAt_47 50 rfl ?_
      refine g_iload_n C dX9_workAt_50 rfl 2 rfl 51 rfl ?_
      refine g_iconst C (v := -1) dX9_workAt_51 (by decide) 52 rfl ?_
      obtain ⟨c_11, h⟩ := o_chk h
      obtain ⟨σ_12, eσ_12, h⟩ := o_lt h
      refine wtX_53 C eσ_12 c_11 dX9_workAt_52 53 rfl ?_
      refine g_aload_n C dX9_workAt_53 rfl 1 rfl 54 rfl ?_
      refine g_iload_n C dX9_workAt_54 rfl 0 rfl 55 rfl ?_
      obtain ⟨q_13, hq_13, h⟩ := o_bind h
      refine wcX9_102_X_52 C (kX9_finish hq_13) (by decide) (Nat.le_of_ble_eq_true rfl) dX9_workAt_55 58 rfl ?_
      exact g_vret C hr dX9_workAt_58 h
end WK
/-! X9_passTick void passTick(); -/
def fX9_passTick_L12 (k41 : ST → Option (ST)) : Nat → Int32 → ST → Option (ST)
  | 0, _, _ => none
  | n + 1, x1, σ => (if (gI σ 19) ≤ x1 then (k41 σ) else (if ix x1 3 then (if (ldA σ 53 x1) = ((-1 : Int32)) then (Option.bind (fX9_beginAt n x1 σ) (fun q_7 => (lt (x1 + 1) (fun x1_8 => (fX9_passTick_L12 k41 n x1_8 q_7))))) else (lt (x1 + 1) (fun x1_6 => (fX9_passTick_L12 k41 n x1_6 σ)))) else none))
def fX9_passTick_L43  : Nat → Int32 → ST → Option (ST)
  | 0, _, _ => none
  | n + 1, x1, σ => (if (gI σ 19) ≤ x1 then (some σ) else (Option.bind (fX9_workAt n x1 σ) (fun q_12 => (lt (x1 + 1) (fun x1_13 => (fX9_passTick_L43 n x1_13 q_12))))))
def fX9_passTick (n : Nat)  (σ : ST) : Option (ST) :=
  (lt (sI σ 18 ((gI σ 18) + ((1 : Int32)))) (fun σ_1 => (lt ((0 : Int32)) (fun x1_2 => (fX9_passTick_L12 (fun (σ_9 : ST) => (lt ((0 : Int32)) (fun x1_10 => (fX9_passTick_L43 n x1_10 σ_9)))) n x1_2 σ_1)))))
section WK
variable {p : Program} {l : Launch} {e : Env} {R : Room} {s : State} {m : MethodId} {args : Array Value} {below : List Frame} {meth : Method} {c : Code} {Q : State → Prop}
variable {D : va_G} {ad : Nat → Nat} {cI cJ cB cZ : ClassId} {A : Nat → Prop} {cc : ByteArray} {nL lev : Nat}
variable {σ : ST} {pc : Nat} {lv : List (Nat × Value)} {st : List Value}
set_option maxHeartbeats 4000000 in
set_option maxRecDepth 100000 in
theorem kX9_passTick_L12 (C : Ctx p l e (rmL 6) s m args below meth c D (tyz cI cJ cB cZ) (wX ad cI cJ cB cZ) A cX9_passTick 2 6 RX9) (hr : meth.sig.returnType = none) {res : ST} {k41 : ST → Option (ST)} (hk41 : ∀ (σ : ST), k41 σ = some res → G p l e (rmL 6) s m args below meth c (MQ below (Qv D (tyz cI cJ cB cZ) (wX ad cI cJ cB cZ) A res) args s 0 0 A) D (wX ad cI cJ cB cZ) A 2 σ 41 [(0, .ref (ad 52))] []) : ∀ (n : Nat) (x1 : Int32) (σ : ST), fX9_passTick_L12 k41 n x1 σ = some res → G p l e (rmL 6) s m args below meth c (MQ below (Qv D (tyz cI cJ cB cZ) (wX ad cI cJ cB cZ) A res) args s 0 0 A) D (wX ad cI cJ cB cZ) A 2 σ 12 [(0, .ref (ad 52)), (1, .int x1)] [] := by
  intro n
  induction n with
  | zero => intro x1 σ h; have h : none = some res := h; cases h
  | succ n ih =>
    intro x1 σ h
    rw [fX9_passTick_L12] at h
    refine g_iload_n C dX9_passTick_12 rfl 1 rfl 13 rfl ?_
    refine g_aload_n C dX9_passTick_13 rfl 0 rfl 14 rfl ?_
    refine wgX9_15_52 C dX9_passTick_14 17 rfl ?_
    refine g_icmp_ge C 41 dX9_passTick_17 (by decide) 20 rfl (fun c_3 => ?_) (fun c_3 => ?_)
    · have h := o_pos h c_3
      exact g_sub C [0] rfl (hk41 σ h)
    · have h := o_neg h c_3
      refine g_aload_n C dX9_passTick_20 rfl 0 rfl 21 rfl ?_
      refine wgX9_24_52 C dX9_passTick_21 24 rfl ?_
      refine g_iload_n C dX9_passTick_24 rfl 1 rfl 25 rfl ?_
      obtain ⟨c_4, h⟩ := o_chk h
      refine wlX_53 C c_4 dX9_passTick_25 26 rfl ?_
      refine g_iconst C (v := -1) dX9_passTick_26 (by decide) 27 rfl ?_
      refine g_icmp_ne C 35 dX9_passTick_27 (by decide) 30 rfl (fun c_5 => ?_) (fun c_5 => ?_)
      · have h := o_neg h c_5
        obtain ⟨x1_6, ex1_6, h⟩ := o_lt h
        refine g_iinc C (lv' := [(1, .int x1_6), (0, .ref (ad 52))]) ex1_6 dX9_passTick_35 1 rfl (by decide) (by decide) rfl 38 rfl ?_
        refine g_goto C 12 dX9_passTick_38 (by decide) ?_
        exact g_sub C [1, 0] rfl (ih x1_6 σ h)
      · have h := o_pos h c_5
        refine g_aload_n C dX9_passTick_30 rfl 0 rfl 31 rfl ?_
        refine g_iload_n C dX9_passTick_31 rfl 1 rfl 32 rfl ?_
        obtain ⟨q_7, hq_7, h⟩ := o_bind h
        refine wcX9_68_X_52 C (kX9_beginAt hq_7) (by decide) (Nat.le_of_ble_eq_true rfl) dX9_passTick_32 35 rfl ?_
        obtain ⟨x1_8, ex1_8, h⟩ := o_lt h
        refine g_iinc C (lv' := [(1, .int x1_8), (0, .ref (ad 52))]) ex1_8 dX9_passTick_35 1 rfl (by decide) (by decide) rfl 38 rfl ?_
        refine g_goto C 12 dX9_passTick_38 (by decide) ?_
        exact g_sub C [1, 0] rfl (ih x1_8 q_7 h)
set_option maxHeartbeats 4000000 in
set_option maxRecDepth 100000 in
theorem kX9_passTick_L43 (C : Ctx p l e (rmL 6) s m args below meth c D (tyz cI cJ cB cZ) (wX ad cI cJ cB cZ) A cX9_passTick 2 6 RX9) (hr : meth.sig.returnType = none) {res : ST}   : ∀ (n : Nat) (x1 : Int32) (σ : ST), fX9_passTick_L43 n x1 σ = some res → G p l e (rmL 6) s m args below meth c (MQ below (Qv D (tyz cI cJ cB cZ) (wX ad cI cJ cB cZ) A res) args s 0 0 A) D (wX ad cI cJ cB cZ) A 2 σ 43 [(0, .ref (ad 52)), (1, .int x1)] [] := by
  intro n
  induction n with
  | zero => intro x1 σ h; have h : none = some res := h; cases h
  | succ n ih =>
    intro x1 σ h
    rw [fX9_passTick_L43] at h
    refine g_iload_n C dX9_passTick_43 rfl 1 rfl 44 rfl ?_
    refine g_aload_n C dX9_passTick_44 rfl 0 rfl 45 rfl ?_
    refine wgX9_15_52 C dX9_passTick_45 48 rfl ?_
    refine g_icmp_ge C 62 dX9_passTick_48 (by decide) 51 rfl (fun c_11 => ?_) (fun c_11 => ?_)
    · have h := o_pos h c_11
      exact g_vret C hr dX9_passTick_62 h
    · have h := o_neg h c_11
      refine g_aload_n C dX9_passTick_51 rfl 0 rfl 52 rfl ?_
      refine g_iload_n C dX9_passTick_52 rfl 1 rfl 53 rfl ?_
      obtain ⟨q_12, hq_12, h⟩ := o_bind h
      refine wcX9_72_X_52 C (kX9_workAt hq_12) (by decide) (Nat.le_of_ble_eq_true rfl) dX9_passTick_53 56 rfl ?_
      obtain ⟨x1_13, ex1_13, h⟩ := o_lt h
      refine g_iinc C (lv' := [(1, .int x1_13), (0, .ref (ad 52))]) ex1_13 dX9_passTick_56 1 rfl (by decide) (by decide) rfl 59 rfl ?_
      refine g_goto C 43 dX9_passTick_59 (by decide) ?_
      exact g_sub C [1, 0] rfl (ih x1_13 q_12 h)
set_option maxHeartbeats 4000000 in
set_option maxRecDepth 100000 in
theorem kX9_passTick {l : Launch} {D : va_G} {ad : Nat → Nat} {cI cJ cB cZ : ClassId}  {n : Nat}  {σ : ST} {res : ST} (h : fX9_passTick n σ = some res) : CMv l D (tyz cI cJ cB cZ) (wX ad cI cJ cB cZ) 6 yX9_passTick cX9_passTick 2 none [.ref (ad 52)] σ res := by
  refine cmv_body (own := RX9) (lv := [(0, .ref (ad 52))]) (by decide) rfl (wX_addr _ _ _ _ _) (Nat.le_of_ble_eq_true rfl) rfl (fun p e s m args below meth c A C hr => ?_)
  unfold fX9_passTick at h
  refine g_aload_n C dX9_passTick_0 rfl 0 rfl 1 rfl ?_
  refine g_dup C dX9_passTick_1 rfl 2 rfl ?_
  refine wgX9_9_52 C dX9_passTick_2 5 rfl ?_
  refine g_iconst C (v := 1) dX9_passTick_5 (by decide) 6 rfl ?_
  refine g_iadd C dX9_passTick_6 7 rfl ?_
  obtain ⟨σ_1, eσ_1, h⟩ := o_lt h
  refine wpX9_9_52 C eσ_1 dX9_passTick_7 10 rfl ?_
  refine g_iconst C (v := 0) dX9_passTick_10 (by decide) 11 rfl ?_
  obtain ⟨x1_2, ex1_2, h⟩ := o_lt h
  refine g_istore_n C (lv' := [(1, .int x1_2), (0, .ref (ad 52))]) ex1_2 dX9_passTick_11 rfl (by decide) rfl 12 rfl ?_
  exact g_sub C [1, 0] rfl (kX9_passTick_L12 C hr (fun σ_9 h => by
      refine g_iconst C (v := 0) dX9_passTick_41 (by decide) 42 rfl ?_
      obtain ⟨x1_10, ex1_10, h⟩ := o_lt h
      refine g_istore_n C (lv' := [(1, .int x1_10), (0, .ref (ad 52))]) ex1_10 dX9_passTick_42 rfl (by decide) rfl 43 rfl ?_
      exact g_sub C [1, 0] rfl (kX9_passTick_L43 C hr  n x1_10 σ_9 h)) n x1_2 σ_1 h)
end WK
/-! X10_tick public int tick(); -/
def fX10_tick (n : Nat)  (σ : ST) : Option (Int32 × ST) :=
  (if (gI σ 18) < ((399 : Int32)) then (Option.bind (fX9_passTick n σ) (fun q_2 => (some (gI q_2 18, q_2)))) else (some ((-1 : Int32), σ)))
section WK
variable {p : Program} {l : Launch} {e : Env} {R : Room} {s : State} {m : MethodId} {args : Array Value} {below : List Frame} {meth : Method} {c : Code} {Q : State → Prop}
variable {D : va_G} {ad : Nat → Nat} {cI cJ cB cZ : ClassId} {A : Nat → Prop} {cc : ByteArray} {nL lev : Nat}
variable {σ : ST} {pc : Nat} {lv : List (Nat × Value)} {st : List Value}
set_option maxHeartbeats 4000000 in
set_option maxRecDepth 100000 in
theorem kX10_tick {l : Launch} {D : va_G} {ad : Nat → Nat} {cI cJ cB cZ : ClassId}  {n : Nat}  {σ : ST} {res : Int32 × ST} (h : fX10_tick n σ = some res) : CMi l D (tyz cI cJ cB cZ) (wX ad cI cJ cB cZ) 7 yX10_tick cX10_tick 1 (some .int) [.ref (ad 0)] σ res := by
  refine cmi_body (own := RX10) (lv := [(0, .ref (ad 0))]) (by decide) rfl (wX_addr _ _ _ _ _) (Nat.le_of_ble_eq_true rfl) rfl (fun p e s m args below meth c A C hr => ?_)
  unfold fX10_tick at h
  refine g_aload_n C dX10_tick_0 rfl 0 rfl 1 rfl ?_
  refine wgX10_67_0 C dX10_tick_1 4 rfl ?_
  refine wgX10_177_52 C dX10_tick_4 7 rfl ?_
  refine g_sipush C (v := 399) dX10_tick_7 (by decide) 10 rfl ?_
  refine g_icmp_lt C 15 dX10_tick_10 (by decide) 13 rfl (fun c_1 => ?_) (fun c_1 => ?_)
  · have h := o_pos h c_1
    refine g_aload_n C dX10_tick_15 rfl 0 rfl 16 rfl ?_
    refine wgX10_67_0 C dX10_tick_16 19 rfl ?_
    obtain ⟨q_2, hq_2, h⟩ := o_bind h
    refine wcX10_180_X_52 C (kX9_passTick hq_2) (by decide) (Nat.le_of_ble_eq_true rfl) dX10_tick_19 22 rfl ?_
    refine g_aload_n C dX10_tick_22 rfl 0 rfl 23 rfl ?_
    refine wgX10_67_0 C dX10_tick_23 26 rfl ?_
    refine wgX10_177_52 C dX10_tick_26 29 rfl ?_
    exact g_iret C hr dX10_tick_29 h
  · have h := o_neg h c_1
    refine g_iconst C (v := -1) dX10_tick_13 (by decide) 14 rfl ?_
    exact g_iret C hr dX10_tick_14 h
end WK
/-! X1_openingOf_35 private int openingOf(int, int[]); -/
def fX1_openingOf_35_L34  : Nat → Int32 → Int32 → Int32 → ST → Option (Int32 × ST)
  | 0, _, _, _, _ => none
  | n + 1, x3, x4, x5, σ => (if ((6 : Int32)) ≤ x5 then (some (x3, σ)) else (if ((x4 >>> (x5 &&& 31)) &&& ((1 : Int32))) = 0 then (lt (x5 + 1) (fun x5_7 => (fX1_openingOf_35_L34 n x3 x4 x5_7 σ))) else (if ix x5 6 then (lt (if x3 < (ldA σ 35 x5) then (ldA σ 35 x5) else x3) (fun x3_9 => (lt (x5 + 1) (fun x5_10 => (fX1_openingOf_35_L34 n x3_9 x4 x5_10 σ))))) else none)))
def fX1_openingOf_35 (n : Nat) (x1 : Int32) (σ : ST) : Option (Int32 × ST) :=
  (lt ((gI σ 18) + ((1 : Int32))) (fun x3_1 => (if ix x1 7 then (lt ((ldA σ 24 x1) &&& ((gI σ 13) ^^^ ((-1 : Int32)))) (fun x4_3 => (lt ((0 : Int32)) (fun x5_4 => (fX1_openingOf_35_L34 n x3_1 x4_3 x5_4 σ))))) else none)))
section WK
variable {p : Program} {l : Launch} {e : Env} {R : Room} {s : State} {m : MethodId} {args : Array Value} {below : List Frame} {meth : Method} {c : Code} {Q : State → Prop}
variable {D : va_G} {ad : Nat → Nat} {cI cJ cB cZ : ClassId} {A : Nat → Prop} {cc : ByteArray} {nL lev : Nat}
variable {σ : ST} {pc : Nat} {lv : List (Nat × Value)} {st : List Value}
set_option maxHeartbeats 4000000 in
set_option maxRecDepth 100000 in
theorem kX1_openingOf_35_L34 (C : Ctx p l e (rmL 1) s m args below meth c D (tyz cI cJ cB cZ) (wX ad cI cJ cB cZ) A cX1_openingOf 6 1 RX1) (hr : meth.sig.returnType = some .int) {res : Int32 × ST}   : ∀ (n : Nat) (x3 : Int32) (x4 : Int32) (x5 : Int32) (σ : ST), fX1_openingOf_35_L34 n x3 x4 x5 σ = some res → G p l e (rmL 1) s m args below meth c (MQ below (Qi D (tyz cI cJ cB cZ) (wX ad cI cJ cB cZ) A res) args s 0 0 A) D (wX ad cI cJ cB cZ) A 6 σ 34 [(0, .ref (ad 58)), (2, .ref (ad 35)), (3, .int x3), (4, .int x4), (5, .int x5)] [] := by
  intro n
  induction n with
  | zero => intro x3 x4 x5 σ h; have h : none = some res := h; cases h
  | succ n ih =>
    intro x3 x4 x5 σ h
    rw [fX1_openingOf_35_L34] at h
    refine g_iload C dX1_openingOf_34 4 rfl 36 rfl ?_
    refine g_bipush C (v := 6) dX1_openingOf_36 (by decide) 38 rfl ?_
    refine g_icmp_ge C 66 dX1_openingOf_38 (by decide) 41 rfl (fun c_5 => ?_) (fun c_5 => ?_)
    · have h := o_pos h c_5
      refine g_iload_n C dX1_openingOf_66 rfl 2 rfl 67 rfl ?_
      exact g_iret C hr dX1_openingOf_67 h
    · have h := o_neg h c_5
      refine g_iload C dX1_openingOf_41 3 rfl 43 rfl ?_
      refine g_iload C dX1_openingOf_43 4 rfl 45 rfl ?_
      refine g_ishr C dX1_openingOf_45 46 rfl ?_
      refine g_iconst C (v := 1) dX1_openingOf_46 (by decide) 47 rfl ?_
      refine g_iand C dX1_openingOf_47 48 rfl ?_
      refine g_if_eq C 60 dX1_openingOf_48 (by decide) 51 rfl (fun c_6 => ?_) (fun c_6 => ?_)
      · have h := o_pos h c_6
        obtain ⟨x5_7, ex5_7, h⟩ := o_lt h
        refine g_iinc C (lv' := [(5, .int x5_7), (0, .ref (ad 58)), (2, .ref (ad 35)), (3, .int x3), (4, .int x4)]) ex5_7 dX1_openingOf_60 4 rfl (by decide) (by decide) rfl 63 rfl ?_
        refine g_goto C 34 dX1_openingOf_63 (by decide) ?_
        exact g_sub C [1, 2, 3, 4, 0] rfl (ih x3 x4 x5_7 σ h)
      · have h := o_neg h c_6
        refine g_iload_n C dX1_openingOf_51 rfl 2 rfl 52 rfl ?_
        refine g_aload_n C dX1_openingOf_52 rfl 1 rfl 53 rfl ?_
        refine g_iload C dX1_openingOf_53 4 rfl 55 rfl ?_
        obtain ⟨c_8, h⟩ := o_chk h
        refine wlX_35 C c_8 dX1_openingOf_55 56 rfl ?_
        refine g_max C (inr_35 _ (List.mem_of_getElem? (i := 4) rfl)) (inr_35 _ (List.mem_of_getElem? (i := 5) rfl)) (inr_24 _ (List.mem_of_getElem? (i := 4) rfl)) (inr_35 _ (List.mem_of_getElem? (i := 6) rfl)) (by decide) (Nat.le_of_ble_eq_true rfl) dX1_openingOf_56 59 rfl ?_
        obtain ⟨x3_9, ex3_9, h⟩ := o_lt h
        refine g_istore_n C (lv' := [(3, .int x3_9), (0, .ref (ad 58)), (2, .ref (ad 35)), (4, .int x4), (5, .int x5)]) ex3_9 dX1_openingOf_59 rfl (by decide) rfl 60 rfl ?_
        obtain ⟨x5_10, ex5_10, h⟩ := o_lt h
        refine g_iinc C (lv' := [(5, .int x5_10), (3, .int x3_9), (0, .ref (ad 58)), (2, .ref (ad 35)), (4, .int x4)]) ex5_10 dX1_openingOf_60 4 rfl (by decide) (by decide) rfl 63 rfl ?_
        refine g_goto C 34 dX1_openingOf_63 (by decide) ?_
        exact g_sub C [2, 3, 1, 4, 0] rfl (ih x3_9 x4 x5_10 σ h)
set_option maxHeartbeats 4000000 in
set_option maxRecDepth 100000 in
theorem kX1_openingOf_35 {l : Launch} {D : va_G} {ad : Nat → Nat} {cI cJ cB cZ : ClassId}  {n : Nat} {x1 : Int32} {σ : ST} {res : Int32 × ST} (h : fX1_openingOf_35 n x1 σ = some res) : CMi l D (tyz cI cJ cB cZ) (wX ad cI cJ cB cZ) 1 yX1_openingOf cX1_openingOf 6 (some .int) [.ref (ad 58), .int x1, .ref (ad 35)] σ res := by
  refine cmi_body (own := RX1) (lv := [(0, .ref (ad 58)), (1, .int x1), (2, .ref (ad 35))]) (by decide) rfl (wX_addr _ _ _ _ _) (Nat.le_of_ble_eq_true rfl) rfl (fun p e s m args below meth c A C hr => ?_)
  unfold fX1_openingOf_35 at h
  refine g_aload_n C dX1_openingOf_0 rfl 0 rfl 1 rfl ?_
  refine wgX1_38_58 C dX1_openingOf_1 4 rfl ?_
  refine wgX1_110_52 C dX1_openingOf_4 7 rfl ?_
  refine g_iconst C (v := 1) dX1_openingOf_7 (by decide) 8 rfl ?_
  refine g_iadd C dX1_openingOf_8 9 rfl ?_
  obtain ⟨x3_1, ex3_1, h⟩ := o_lt h
  refine g_istore_n C (lv' := [(3, .int x3_1), (0, .ref (ad 58)), (1, .int x1), (2, .ref (ad 35))]) ex3_1 dX1_openingOf_9 rfl (by decide) rfl 10 rfl ?_
  refine g_aload_n C dX1_openingOf_10 rfl 1 rfl 11 rfl ?_
  refine wgX1_30_58 C dX1_openingOf_11 14 rfl ?_
  refine wgX1_135_19 C dX1_openingOf_14 17 rfl ?_
  refine g_iload_n C dX1_openingOf_17 rfl 2 rfl 18 rfl ?_
  obtain ⟨c_2, h⟩ := o_chk h
  refine wlX_24 C c_2 dX1_openingOf_18 19 rfl ?_
  refine g_aload_n C dX1_openingOf_19 rfl 1 rfl 20 rfl ?_
  refine wgX1_34_58 C dX1_openingOf_20 23 rfl ?_
  refine wgX1_138_30 C dX1_openingOf_23 26 rfl ?_
  refine g_iconst C (v := -1) dX1_openingOf_26 (by decide) 27 rfl ?_
  refine g_ixor C dX1_openingOf_27 28 rfl ?_
  refine g_iand C dX1_openingOf_28 29 rfl ?_
  obtain ⟨x4_3, ex4_3, h⟩ := o_lt h
  refine g_istore C (lv' := [(4, .int x4_3), (3, .int x3_1), (0, .ref (ad 58)), (1, .int x1), (2, .ref (ad 35))]) ex4_3 dX1_openingOf_29 (by decide) rfl 31 rfl ?_
  refine g_iconst C (v := 0) dX1_openingOf_31 (by decide) 32 rfl ?_
  obtain ⟨x5_4, ex5_4, h⟩ := o_lt h
  refine g_istore C (lv' := [(5, .int x5_4), (4, .int x4_3), (3, .int x3_1), (0, .ref (ad 58)), (1, .int x1), (2, .ref (ad 35))]) ex5_4 dX1_openingOf_32 (by decide) rfl 34 rfl ?_
  exact g_sub C [3, 5, 2, 1, 0] rfl (kX1_openingOf_35_L34 C hr  n x3_1 x4_3 x5_4 σ h)
end WK
/-! X1_costOf private int costOf(int, int); -/
def fX1_costOf (x1 : Int32) (x2 : Int32) (σ : ST) : Option (Int32 × ST) :=
  (if ix x1 7 then (if ix x1 7 then (some ((if ((0 : Int32)) < (x2 - (ldA σ 22 x1)) then (x2 - (ldA σ 22 x1)) else ((0 : Int32))) * (ldA σ 23 x1), σ)) else none) else none)
section WK
variable {p : Program} {l : Launch} {e : Env} {R : Room} {s : State} {m : MethodId} {args : Array Value} {below : List Frame} {meth : Method} {c : Code} {Q : State → Prop}
variable {D : va_G} {ad : Nat → Nat} {cI cJ cB cZ : ClassId} {A : Nat → Prop} {cc : ByteArray} {nL lev : Nat}
variable {σ : ST} {pc : Nat} {lv : List (Nat × Value)} {st : List Value}
set_option maxHeartbeats 4000000 in
set_option maxRecDepth 100000 in
theorem kX1_costOf {l : Launch} {D : va_G} {ad : Nat → Nat} {cI cJ cB cZ : ClassId}  {x1 : Int32} {x2 : Int32} {σ : ST} {res : Int32 × ST} (h : fX1_costOf x1 x2 σ = some res) : CMi l D (tyz cI cJ cB cZ) (wX ad cI cJ cB cZ) 1 yX1_costOf cX1_costOf 3 (some .int) [.ref (ad 58), .int x1, .int x2] σ res := by
  refine cmi_body (own := RX1) (lv := [(0, .ref (ad 58)), (1, .int x1), (2, .int x2)]) (by decide) rfl (wX_addr _ _ _ _ _) (Nat.le_of_ble_eq_true rfl) rfl (fun p e s m args below meth c A C hr => ?_)
  unfold fX1_costOf at h
  refine g_iconst C (v := 0) dX1_costOf_0 (by decide) 1 rfl ?_
  refine g_iload_n C dX1_costOf_1 rfl 2 rfl 2 rfl ?_
  refine g_aload_n C dX1_costOf_2 rfl 0 rfl 3 rfl ?_
  refine wgX1_30_58 C dX1_costOf_3 6 rfl ?_
  refine wgX1_156_19 C dX1_costOf_6 9 rfl ?_
  refine g_iload_n C dX1_costOf_9 rfl 1 rfl 10 rfl ?_
  obtain ⟨c_1, h⟩ := o_chk h
  refine wlX_22 C c_1 dX1_costOf_10 11 rfl ?_
  refine g_isub C dX1_costOf_11 12 rfl ?_
  refine g_max C (inr_35 _ (List.mem_of_getElem? (i := 4) rfl)) (inr_35 _ (List.mem_of_getElem? (i := 5) rfl)) (inr_24 _ (List.mem_of_getElem? (i := 4) rfl)) (inr_35 _ (List.mem_of_getElem? (i := 6) rfl)) (by decide) (Nat.le_of_ble_eq_true rfl) dX1_costOf_12 15 rfl ?_
  refine g_aload_n C dX1_costOf_15 rfl 0 rfl 16 rfl ?_
  refine wgX1_30_58 C dX1_costOf_16 19 rfl ?_
  refine wgX1_159_19 C dX1_costOf_19 22 rfl ?_
  refine g_iload_n C dX1_costOf_22 rfl 1 rfl 23 rfl ?_
  obtain ⟨c_2, h⟩ := o_chk h
  refine wlX_23 C c_2 dX1_costOf_23 24 rfl ?_
  refine g_imul C dX1_costOf_24 25 rfl ?_
  exact g_iret C hr dX1_costOf_25 h
end WK
/-! X1_partsOpening private int partsOpening(int); -/
def fX1_partsOpening_L4  : Nat → Int32 → Int32 → Int32 → ST → Option (Int32 × ST)
  | 0, _, _, _, _ => none
  | n + 1, x1, x2, x3, σ => (if x1 ≤ x3 then (some (x2, σ)) else (if ix x1 7 then (if (((ldA σ 25 x1) >>> (x3 &&& 31)) &&& ((1 : Int32))) = 0 then (lt (x3 + 1) (fun x3_6 => (fX1_partsOpening_L4 n x1 x2 x3_6 σ))) else (if ix x3 7 then (lt (if x2 < ((ldA σ 60 x3) + ((1 : Int32))) then ((ldA σ 60 x3) + ((1 : Int32))) else x2) (fun x2_8 => (lt (x3 + 1) (fun x3_9 => (fX1_partsOpening_L4 n x1 x2_8 x3_9 σ))))) else none)) else none))
def fX1_partsOpening (n : Nat) (x1 : Int32) (σ : ST) : Option (Int32 × ST) :=
  (lt ((0 : Int32)) (fun x2_1 => (lt ((0 : Int32)) (fun x3_2 => (fX1_partsOpening_L4 n x1 x2_1 x3_2 σ)))))
section WK
variable {p : Program} {l : Launch} {e : Env} {R : Room} {s : State} {m : MethodId} {args : Array Value} {below : List Frame} {meth : Method} {c : Code} {Q : State → Prop}
variable {D : va_G} {ad : Nat → Nat} {cI cJ cB cZ : ClassId} {A : Nat → Prop} {cc : ByteArray} {nL lev : Nat}
variable {σ : ST} {pc : Nat} {lv : List (Nat × Value)} {st : List Value}
set_option maxHeartbeats 4000000 in
set_option maxRecDepth 100000 in
theorem kX1_partsOpening_L4 (C : Ctx p l e (rmL 1) s m args below meth c D (tyz cI cJ cB cZ) (wX ad cI cJ cB cZ) A cX1_partsOpening 4 1 RX1) (hr : meth.sig.returnType = some .int) {res : Int32 × ST}   : ∀ (n : Nat) (x1 : Int32) (x2 : Int32) (x3 : Int32) (σ : ST), fX1_partsOpening_L4 n x1 x2 x3 σ = some res → G p l e (rmL 1) s m args below meth c (MQ below (Qi D (tyz cI cJ cB cZ) (wX ad cI cJ cB cZ) A res) args s 0 0 A) D (wX ad cI cJ cB cZ) A 4 σ 4 [(0, .ref (ad 58)), (1, .int x1), (2, .int x2), (3, .int x3)] [] := by
  intro n
  induction n with
  | zero => intro x1 x2 x3 σ h; have h : none = some res := h; cases h
  | succ n ih =>
    intro x1 x2 x3 σ h
    rw [fX1_partsOpening_L4] at h
    refine g_iload_n C dX1_partsOpening_4 rfl 3 rfl 5 rfl ?_
    refine g_iload_n C dX1_partsOpening_5 rfl 1 rfl 6 rfl ?_
    refine g_icmp_ge C 44 dX1_partsOpening_6 (by decide) 9 rfl (fun c_3 => ?_) (fun c_3 => ?_)
    · have h := o_pos h c_3
      refine g_iload_n C dX1_partsOpening_44 rfl 2 rfl 45 rfl ?_
      exact g_iret C hr dX1_partsOpening_45 h
    · have h := o_neg h c_3
      refine g_aload_n C dX1_partsOpening_9 rfl 0 rfl 10 rfl ?_
      refine wgX1_30_58 C dX1_partsOpening_10 13 rfl ?_
      refine wgX1_141_19 C dX1_partsOpening_13 16 rfl ?_
      refine g_iload_n C dX1_partsOpening_16 rfl 1 rfl 17 rfl ?_
      obtain ⟨c_4, h⟩ := o_chk h
      refine wlX_25 C c_4 dX1_partsOpening_17 18 rfl ?_
      refine g_iload_n C dX1_partsOpening_18 rfl 3 rfl 19 rfl ?_
      refine g_ishr C dX1_partsOpening_19 20 rfl ?_
      refine g_iconst C (v := 1) dX1_partsOpening_20 (by decide) 21 rfl ?_
      refine g_iand C dX1_partsOpening_21 22 rfl ?_
      refine g_if_eq C 38 dX1_partsOpening_22 (by decide) 25 rfl (fun c_5 => ?_) (fun c_5 => ?_)
      · have h := o_pos h c_5
        obtain ⟨x3_6, ex3_6, h⟩ := o_lt h
        refine g_iinc C (lv' := [(3, .int x3_6), (0, .ref (ad 58)), (1, .int x1), (2, .int x2)]) ex3_6 dX1_partsOpening_38 3 rfl (by decide) (by decide) rfl 41 rfl ?_
        refine g_goto C 4 dX1_partsOpening_41 (by decide) ?_
        exact g_sub C [1, 2, 3, 0] rfl (ih x1 x2 x3_6 σ h)
      · have h := o_neg h c_5
        refine g_iload_n C dX1_partsOpening_25 rfl 2 rfl 26 rfl ?_
        refine g_aload_n C dX1_partsOpening_26 rfl 0 rfl 27 rfl ?_
        refine wgX1_15_58 C dX1_partsOpening_27 30 rfl ?_
        refine g_iload_n C dX1_partsOpening_30 rfl 3 rfl 31 rfl ?_
        obtain ⟨c_7, h⟩ := o_chk h
        refine wlX_60 C c_7 dX1_partsOpening_31 32 rfl ?_
        refine g_iconst C (v := 1) dX1_partsOpening_32 (by decide) 33 rfl ?_
        refine g_iadd C dX1_partsOpening_33 34 rfl ?_
        refine g_max C (inr_35 _ (List.mem_of_getElem? (i := 4) rfl)) (inr_35 _ (List.mem_of_getElem? (i := 5) rfl)) (inr_24 _ (List.mem_of_getElem? (i := 4) rfl)) (inr_35 _ (List.mem_of_getElem? (i := 6) rfl)) (by decide) (Nat.le_of_ble_eq_true rfl) dX1_partsOpening_34 37 rfl ?_
        obtain ⟨x2_8, ex2_8, h⟩ := o_lt h
        refine g_istore_n C (lv' := [(2, .int x2_8), (0, .ref (ad 58)), (1, .int x1), (3, .int x3)]) ex2_8 dX1_partsOpening_37 rfl (by decide) rfl 38 rfl ?_
        obtain ⟨x3_9, ex3_9, h⟩ := o_lt h
        refine g_iinc C (lv' := [(3, .int x3_9), (2, .int x2_8), (0, .ref (ad 58)), (1, .int x1)]) ex3_9 dX1_partsOpening_38 3 rfl (by decide) (by decide) rfl 41 rfl ?_
        refine g_goto C 4 dX1_partsOpening_41 (by decide) ?_
        exact g_sub C [2, 3, 1, 0] rfl (ih x1 x2_8 x3_9 σ h)
set_option maxHeartbeats 4000000 in
set_option maxRecDepth 100000 in
theorem kX1_partsOpening {l : Launch} {D : va_G} {ad : Nat → Nat} {cI cJ cB cZ : ClassId}  {n : Nat} {x1 : Int32} {σ : ST} {res : Int32 × ST} (h : fX1_partsOpening n x1 σ = some res) : CMi l D (tyz cI cJ cB cZ) (wX ad cI cJ cB cZ) 1 yX1_partsOpening cX1_partsOpening 4 (some .int) [.ref (ad 58), .int x1] σ res := by
  refine cmi_body (own := RX1) (lv := [(0, .ref (ad 58)), (1, .int x1)]) (by decide) rfl (wX_addr _ _ _ _ _) (Nat.le_of_ble_eq_true rfl) rfl (fun p e s m args below meth c A C hr => ?_)
  unfold fX1_partsOpening at h
  refine g_iconst C (v := 0) dX1_partsOpening_0 (by decide) 1 rfl ?_
  obtain ⟨x2_1, ex2_1, h⟩ := o_lt h
  refine g_istore_n C (lv' := [(2, .int x2_1), (0, .ref (ad 58)), (1, .int x1)]) ex2_1 dX1_partsOpening_1 rfl (by decide) rfl 2 rfl ?_
  refine g_iconst C (v := 0) dX1_partsOpening_2 (by decide) 3 rfl ?_
  obtain ⟨x3_2, ex3_2, h⟩ := o_lt h
  refine g_istore_n C (lv' := [(3, .int x3_2), (2, .int x2_1), (0, .ref (ad 58)), (1, .int x1)]) ex3_2 dX1_partsOpening_3 rfl (by decide) rfl 4 rfl ?_
  exact g_sub C [2, 3, 1, 0] rfl (kX1_partsOpening_L4 C hr  n x1 x2_1 x3_2 σ h)
end WK
/-! X1_reckonSoonest_35 private void reckonSoonest(int[]); -/
def fX1_reckonSoonest_35_L7  : Nat → Int32 → ST → Option (ST)
  | 0, _, _ => none
  | n + 1, x2, σ => (if (gI σ 10) ≤ x2 then (some σ) else (Option.bind (fX1_openingOf_35 n x2 σ) (fun q_4 => (if ix x2 7 then (lt (stA q_4.2 59 x2 q_4.1) (fun σ_6 => (Option.bind (fX9_isDone x2 σ_6) (fun q_7 => (lt (fun (x2_8 : Int32) (σ_9 : ST) => (if ix x2_8 7 then (Option.bind (fX1_costOf x2_8 (ldA σ_9 60 x2_8) σ_9) (fun q_11 => (lt (sI q_11.2 25 ((gI σ_9 25) + q_11.1)) (fun σ_12 => (lt (x2_8 + 1) (fun x2_13 => (fX1_reckonSoonest_35_L7 n x2_13 σ_12))))))) else none)) (fun j150 => (if q_7.1 = 0 then (Option.bind (fX9_isUnderWay x2 q_7.2) (fun q_15 => (if q_15.1 = 0 then (if ix x2 7 then (Option.bind (fX1_partsOpening n x2 q_15.2) (fun q_18 => (if ix x2 7 then (if ix x2 7 then (lt (stA q_18.2 60 x2 (if (((if (ldA q_15.2 59 x2) < q_18.1 then q_18.1 else (ldA q_15.2 59 x2)) + (ldA q_18.2 21 x2)) - ((1 : Int32))) < ((400 : Int32)) then (((if (ldA q_15.2 59 x2) < q_18.1 then q_18.1 else (ldA q_15.2 59 x2)) + (ldA q_18.2 21 x2)) - ((1 : Int32))) else ((400 : Int32)))) (fun σ_21 => (j150 x2 σ_21))) else none) else none))) else none) else (if ix x2 7 then (if ix x2 7 then (if ix x2 7 then (lt (stA q_15.2 60 x2 (if (((gI q_15.2 18) + (ldA q_15.2 21 x2)) - (ldA q_15.2 57 x2)) < ((400 : Int32)) then (((gI q_15.2 18) + (ldA q_15.2 21 x2)) - (ldA q_15.2 57 x2)) else ((400 : Int32)))) (fun σ_25 => (j150 x2 σ_25))) else none) else none) else none)))) else (if ix x2 7 then (if ix x2 7 then (lt (stA q_7.2 60 x2 (ldA q_7.2 55 x2)) (fun σ_28 => (j150 x2 σ_28))) else none) else none)))))))) else none))))
def fX1_reckonSoonest_35 (n : Nat)  (σ : ST) : Option (ST) :=
  (lt (sI σ 25 ((0 : Int32))) (fun σ_1 => (lt ((0 : Int32)) (fun x2_2 => (fX1_reckonSoonest_35_L7 n x2_2 σ_1)))))
section WK
variable {p : Program} {l : Launch} {e : Env} {R : Room} {s : State} {m : MethodId} {args : Array Value} {below : List Frame} {meth : Method} {c : Code} {Q : State → Prop}
variable {D : va_G} {ad : Nat → Nat} {cI cJ cB cZ : ClassId} {A : Nat → Prop} {cc : ByteArray} {nL lev : Nat}
variable {σ : ST} {pc : Nat} {lv : List (Nat × Value)} {st : List Value}
set_option maxHeartbeats 4000000 in
set_option maxRecDepth 100000 in
theorem kX1_reckonSoonest_35_L7 (C : Ctx p l e (rmL 2) s m args below meth c D (tyz cI cJ cB cZ) (wX ad cI cJ cB cZ) A cX1_reckonSoonest 3 2 RX1) (hr : meth.sig.returnType = none) {res : ST}   : ∀ (n : Nat) (x2 : Int32) (σ : ST), fX1_reckonSoonest_35_L7 n x2 σ = some res → G p l e (rmL 2) s m args below meth c (MQ below (Qv D (tyz cI cJ cB cZ) (wX ad cI cJ cB cZ) A res) args s 0 0 A) D (wX ad cI cJ cB cZ) A 3 σ 7 [(0, .ref (ad 58)), (1, .ref (ad 35)), (2, .int x2)] [] := by
  intro n
  induction n with
  | zero => intro x2 σ h; have h : none = some res := h; cases h
  | succ n ih =>
    intro x2 σ h
    rw [fX1_reckonSoonest_35_L7] at h
    refine g_iload_n C dX1_reckonSoonest_7 rfl 2 rfl 8 rfl ?_
    refine g_aload_n C dX1_reckonSoonest_8 rfl 0 rfl 9 rfl ?_
    refine wgX1_30_58 C dX1_reckonSoonest_9 12 rfl ?_
    refine wgX1_91_19 C dX1_reckonSoonest_12 15 rfl ?_
    refine g_icmp_ge C 176 dX1_reckonSoonest_15 (by decide) 18 rfl (fun c_3 => ?_) (fun c_3 => ?_)
    · have h := o_pos h c_3
      exact g_vret C hr dX1_reckonSoonest_176 h
    · have h := o_neg h c_3
      refine g_aload_n C dX1_reckonSoonest_18 rfl 0 rfl 19 rfl ?_
      refine wgX1_9_58 C dX1_reckonSoonest_19 22 rfl ?_
      refine g_iload_n C dX1_reckonSoonest_22 rfl 2 rfl 23 rfl ?_
      refine g_aload_n C dX1_reckonSoonest_23 rfl 0 rfl 24 rfl ?_
      refine g_iload_n C dX1_reckonSoonest_24 rfl 2 rfl 25 rfl ?_
      refine g_aload_n C dX1_reckonSoonest_25 rfl 1 rfl 26 rfl ?_
      obtain ⟨q_4, hq_4, h⟩ := o_bind h
      refine wcX1_96_X_58_35 C (kX1_openingOf_35 hq_4) (by decide) (Nat.le_of_ble_eq_true rfl) dX1_reckonSoonest_26 29 rfl ?_
      obtain ⟨c_5, h⟩ := o_chk h
      obtain ⟨σ_6, eσ_6, h⟩ := o_lt h
      refine wtX_59 C eσ_6 c_5 dX1_reckonSoonest_29 30 rfl ?_
      refine g_aload_n C dX1_reckonSoonest_30 rfl 0 rfl 31 rfl ?_
      refine wgX1_38_58 C dX1_reckonSoonest_31 34 rfl ?_
      refine g_iload_n C dX1_reckonSoonest_34 rfl 2 rfl 35 rfl ?_
      obtain ⟨q_7, hq_7, h⟩ := o_bind h
      refine wcX1_100_X_52 C (kX9_isDone hq_7) (by decide) (Nat.le_of_ble_eq_true rfl) dX1_reckonSoonest_35 38 rfl ?_
      obtain ⟨j150, ej150, h⟩ := o_lt h
      have hj150 : ∀ (x2_8 : Int32) (σ_9 : ST), j150 x2_8 σ_9 = some res → G p l e (rmL 2) s m args below meth c (MQ below (Qv D (tyz cI cJ cB cZ) (wX ad cI cJ cB cZ) A res) args s 0 0 A) D (wX ad cI cJ cB cZ) A 3 σ_9 150 [(0, .ref (ad 58)), (1, .ref (ad 35)), (2, .int x2_8)] [] := by
        intro x2_8 σ_9 h
        rw [ej150] at h
        refine g_aload_n C dX1_reckonSoonest_150 rfl 0 rfl 151 rfl ?_
        refine g_dup C dX1_reckonSoonest_151 rfl 152 rfl ?_
        refine wgX1_81_58 C dX1_reckonSoonest_152 155 rfl ?_
        refine g_aload_n C dX1_reckonSoonest_155 rfl 0 rfl 156 rfl ?_
        refine g_iload_n C dX1_reckonSoonest_156 rfl 2 rfl 157 rfl ?_
        refine g_aload_n C dX1_reckonSoonest_157 rfl 0 rfl 158 rfl ?_
        refine wgX1_15_58 C dX1_reckonSoonest_158 161 rfl ?_
        refine g_iload_n C dX1_reckonSoonest_161 rfl 2 rfl 162 rfl ?_
        obtain ⟨c_10, h⟩ := o_chk h
        refine wlX_60 C c_10 dX1_reckonSoonest_162 163 rfl ?_
        obtain ⟨q_11, hq_11, h⟩ := o_bind h
        refine wcX1_132_X_58 C (kX1_costOf hq_11) (by decide) (Nat.le_of_ble_eq_true rfl) dX1_reckonSoonest_163 166 rfl ?_
        refine g_iadd C dX1_reckonSoonest_166 167 rfl ?_
        obtain ⟨σ_12, eσ_12, h⟩ := o_lt h
        refine wpX1_81_58 C eσ_12 dX1_reckonSoonest_167 170 rfl ?_
        obtain ⟨x2_13, ex2_13, h⟩ := o_lt h
        refine g_iinc C (lv' := [(2, .int x2_13), (0, .ref (ad 58)), (1, .ref (ad 35))]) ex2_13 dX1_reckonSoonest_170 2 rfl (by decide) (by decide) rfl 173 rfl ?_
        refine g_goto C 7 dX1_reckonSoonest_173 (by decide) ?_
        exact g_sub C [1, 2, 0] rfl (ih x2_13 σ_12 h)
      refine g_if_eq C 59 dX1_reckonSoonest_38 (by decide) 41 rfl (fun c_14 => ?_) (fun c_14 => ?_)
      · have h := o_pos h c_14
        refine g_aload_n C dX1_reckonSoonest_59 rfl 0 rfl 60 rfl ?_
        refine wgX1_38_58 C dX1_reckonSoonest_60 63 rfl ?_
        refine g_iload_n C dX1_reckonSoonest_63 rfl 2 rfl 64 rfl ?_
        obtain ⟨q_15, hq_15, h⟩ := o_bind h
        refine wcX1_107_X_52 C (kX9_isUnderWay hq_15) (by decide) (Nat.le_of_ble_eq_true rfl) dX1_reckonSoonest_64 67 rfl ?_
        refine g_if_eq C 112 dX1_reckonSoonest_67 (by decide) 70 rfl (fun c_16 => ?_) (fun c_16 => ?_)
        · have h := o_pos h c_16
          refine g_aload_n C dX1_reckonSoonest_112 rfl 0 rfl 113 rfl ?_
          refine wgX1_15_58 C dX1_reckonSoonest_113 116 rfl ?_
          refine g_iload_n C dX1_reckonSoonest_116 rfl 2 rfl 117 rfl ?_
          refine g_sipush C (v := 400) dX1_reckonSoonest_117 (by decide) 120 rfl ?_
          refine g_aload_n C dX1_reckonSoonest_120 rfl 0 rfl 121 rfl ?_
          refine wgX1_9_58 C dX1_reckonSoonest_121 124 rfl ?_
          refine g_iload_n C dX1_reckonSoonest_124 rfl 2 rfl 125 rfl ?_
          obtain ⟨c_17, h⟩ := o_chk h
          refine wlX_59 C c_17 dX1_reckonSoonest_125 126 rfl ?_
          refine g_aload_n C dX1_reckonSoonest_126 rfl 0 rfl 127 rfl ?_
          refine g_iload_n C dX1_reckonSoonest_127 rfl 2 rfl 128 rfl ?_
          obtain ⟨q_18, hq_18, h⟩ := o_bind h
          refine wcX1_125_X_58 C (kX1_partsOpening hq_18) (by decide) (Nat.le_of_ble_eq_true rfl) dX1_reckonSoonest_128 131 rfl ?_
          refine g_max C (inr_35 _ (List.mem_of_getElem? (i := 4) rfl)) (inr_35 _ (List.mem_of_getElem? (i := 5) rfl)) (inr_24 _ (List.mem_of_getElem? (i := 4) rfl)) (inr_35 _ (List.mem_of_getElem? (i := 6) rfl)) (by decide) (Nat.le_of_ble_eq_true rfl) dX1_reckonSoonest_131 134 rfl ?_
          refine g_aload_n C dX1_reckonSoonest_134 rfl 0 rfl 135 rfl ?_
          refine wgX1_30_58 C dX1_reckonSoonest_135 138 rfl ?_
          refine wgX1_113_19 C dX1_reckonSoonest_138 141 rfl ?_
          refine g_iload_n C dX1_reckonSoonest_141 rfl 2 rfl 142 rfl ?_
          obtain ⟨c_19, h⟩ := o_chk h
          refine wlX_21 C c_19 dX1_reckonSoonest_142 143 rfl ?_
          refine g_iadd C dX1_reckonSoonest_143 144 rfl ?_
          refine g_iconst C (v := 1) dX1_reckonSoonest_144 (by decide) 145 rfl ?_
          refine g_isub C dX1_reckonSoonest_145 146 rfl ?_
          refine g_min C (inr_35 _ (List.mem_of_getElem? (i := 3) rfl)) (inr_31 _ (List.mem_of_getElem? (i := 13) rfl)) (inr_24 _ (List.mem_of_getElem? (i := 4) rfl)) (inr_31 _ (List.mem_of_getElem? (i := 14) rfl)) (by decide) (Nat.le_of_ble_eq_true rfl) dX1_reckonSoonest_146 149 rfl ?_
          obtain ⟨c_20, h⟩ := o_chk h
          obtain ⟨σ_21, eσ_21, h⟩ := o_lt h
          refine wtX_60 C eσ_21 c_20 dX1_reckonSoonest_149 150 rfl ?_
          exact g_sub C [0, 1, 2] rfl (hj150 x2 σ_21 h)
        · have h := o_neg h c_16
          refine g_aload_n C dX1_reckonSoonest_70 rfl 0 rfl 71 rfl ?_
          refine wgX1_15_58 C dX1_reckonSoonest_71 74 rfl ?_
          refine g_iload_n C dX1_reckonSoonest_74 rfl 2 rfl 75 rfl ?_
          refine g_sipush C (v := 400) dX1_reckonSoonest_75 (by decide) 78 rfl ?_
          refine g_aload_n C dX1_reckonSoonest_78 rfl 0 rfl 79 rfl ?_
          refine wgX1_38_58 C dX1_reckonSoonest_79 82 rfl ?_
          refine wgX1_110_52 C dX1_reckonSoonest_82 85 rfl ?_
          refine g_aload_n C dX1_reckonSoonest_85 rfl 0 rfl 86 rfl ?_
          refine wgX1_30_58 C dX1_reckonSoonest_86 89 rfl ?_
          refine wgX1_113_19 C dX1_reckonSoonest_89 92 rfl ?_
          refine g_iload_n C dX1_reckonSoonest_92 rfl 2 rfl 93 rfl ?_
          obtain ⟨c_22, h⟩ := o_chk h
          refine wlX_21 C c_22 dX1_reckonSoonest_93 94 rfl ?_
          refine g_iadd C dX1_reckonSoonest_94 95 rfl ?_
          refine g_aload_n C dX1_reckonSoonest_95 rfl 0 rfl 96 rfl ?_
          refine wgX1_38_58 C dX1_reckonSoonest_96 99 rfl ?_
          refine wgX1_116_52 C dX1_reckonSoonest_99 102 rfl ?_
          refine g_iload_n C dX1_reckonSoonest_102 rfl 2 rfl 103 rfl ?_
          obtain ⟨c_23, h⟩ := o_chk h
          refine wlX_57 C c_23 dX1_reckonSoonest_103 104 rfl ?_
          refine g_isub C dX1_reckonSoonest_104 105 rfl ?_
          refine g_min C (inr_35 _ (List.mem_of_getElem? (i := 3) rfl)) (inr_31 _ (List.mem_of_getElem? (i := 13) rfl)) (inr_24 _ (List.mem_of_getElem? (i := 4) rfl)) (inr_31 _ (List.mem_of_getElem? (i := 14) rfl)) (by decide) (Nat.le_of_ble_eq_true rfl) dX1_reckonSoonest_105 108 rfl ?_
          obtain ⟨c_24, h⟩ := o_chk h
          obtain ⟨σ_25, eσ_25, h⟩ := o_lt h
          refine wtX_60 C eσ_25 c_24 dX1_reckonSoonest_108 109 rfl ?_
          refine g_goto C 150 dX1_reckonSoonest_109 (by decide) ?_
          exact g_sub C [0, 1, 2] rfl (hj150 x2 σ_25 h)
      · have h := o_neg h c_14
        refine g_aload_n C dX1_reckonSoonest_41 rfl 0 rfl 42 rfl ?_
        refine wgX1_15_58 C dX1_reckonSoonest_42 45 rfl ?_
        refine g_iload_n C dX1_reckonSoonest_45 rfl 2 rfl 46 rfl ?_
        refine g_aload_n C dX1_reckonSoonest_46 rfl 0 rfl 47 rfl ?_
        refine wgX1_38_58 C dX1_reckonSoonest_47 50 rfl ?_
        refine wgX1_104_52 C dX1_reckonSoonest_50 53 rfl ?_
        refine g_iload_n C dX1_reckonSoonest_53 rfl 2 rfl 54 rfl ?_
        obtain ⟨c_26, h⟩ := o_chk h
        refine wlX_55 C c_26 dX1_reckonSoonest_54 55 rfl ?_
        obtain ⟨c_27, h⟩ := o_chk h
        obtain ⟨σ_28, eσ_28, h⟩ := o_lt h
        refine wtX_60 C eσ_28 c_27 dX1_reckonSoonest_55 56 rfl ?_
        refine g_goto C 150 dX1_reckonSoonest_56 (by decide) ?_
        exact g_sub C [0, 1, 2] rfl (hj150 x2 σ_28 h)
set_option maxHeartbeats 4000000 in
set_option maxRecDepth 100000 in
theorem kX1_reckonSoonest_35 {l : Launch} {D : va_G} {ad : Nat → Nat} {cI cJ cB cZ : ClassId}  {n : Nat}  {σ : ST} {res : ST} (h : fX1_reckonSoonest_35 n σ = some res) : CMv l D (tyz cI cJ cB cZ) (wX ad cI cJ cB cZ) 2 yX1_reckonSoonest cX1_reckonSoonest 3 none [.ref (ad 58), .ref (ad 35)] σ res := by
  refine cmv_body (own := RX1) (lv := [(0, .ref (ad 58)), (1, .ref (ad 35))]) (by decide) rfl (wX_addr _ _ _ _ _) (Nat.le_of_ble_eq_true rfl) rfl (fun p e s m args below meth c A C hr => ?_)
  unfold fX1_reckonSoonest_35 at h
  refine g_aload_n C dX1_reckonSoonest_0 rfl 0 rfl 1 rfl ?_
  refine g_iconst C (v := 0) dX1_reckonSoonest_1 (by decide) 2 rfl ?_
  obtain ⟨σ_1, eσ_1, h⟩ := o_lt h
  refine wpX1_81_58 C eσ_1 dX1_reckonSoonest_2 5 rfl ?_
  refine g_iconst C (v := 0) dX1_reckonSoonest_5 (by decide) 6 rfl ?_
  obtain ⟨x2_2, ex2_2, h⟩ := o_lt h
  refine g_istore_n C (lv' := [(2, .int x2_2), (0, .ref (ad 58)), (1, .ref (ad 35))]) ex2_2 dX1_reckonSoonest_6 rfl (by decide) rfl 7 rfl ?_
  exact g_sub C [1, 2, 0] rfl (kX1_reckonSoonest_35_L7 C hr  n x2_2 σ_1 h)
end WK
/-! X1_isWaiting private boolean isWaiting(int); -/
def fX1_isWaiting (x1 : Int32) (σ : ST) : Option (Int32 × ST) :=
  (Option.bind (fX9_isDone x1 σ) (fun q_1 => (if q_1.1 = 0 then (Option.bind (fX9_isUnderWay x1 q_1.2) (fun q_3 => (if q_3.1 = 0 then (some ((1 : Int32), q_3.2)) else (some ((0 : Int32), q_3.2))))) else (some ((0 : Int32), q_1.2)))))
section WK
variable {p : Program} {l : Launch} {e : Env} {R : Room} {s : State} {m : MethodId} {args : Array Value} {below : List Frame} {meth : Method} {c : Code} {Q : State → Prop}
variable {D : va_G} {ad : Nat → Nat} {cI cJ cB cZ : ClassId} {A : Nat → Prop} {cc : ByteArray} {nL lev : Nat}
variable {σ : ST} {pc : Nat} {lv : List (Nat × Value)} {st : List Value}
set_option maxHeartbeats 4000000 in
set_option maxRecDepth 100000 in
theorem kX1_isWaiting {l : Launch} {D : va_G} {ad : Nat → Nat} {cI cJ cB cZ : ClassId}  {x1 : Int32} {σ : ST} {res : Int32 × ST} (h : fX1_isWaiting x1 σ = some res) : CMi l D (tyz cI cJ cB cZ) (wX ad cI cJ cB cZ) 1 yX1_isWaiting cX1_isWaiting 2 (some .boolean) [.ref (ad 58), .int x1] σ res := by
  refine cmi_body (own := RX1) (lv := [(0, .ref (ad 58)), (1, .int x1)]) (by decide) rfl (wX_addr _ _ _ _ _) (Nat.le_of_ble_eq_true rfl) rfl (fun p e s m args below meth c A C hr => ?_)
  unfold fX1_isWaiting at h
  refine g_aload_n C dX1_isWaiting_0 rfl 0 rfl 1 rfl ?_
  refine wgX1_38_58 C dX1_isWaiting_1 4 rfl ?_
  refine g_iload_n C dX1_isWaiting_4 rfl 1 rfl 5 rfl ?_
  obtain ⟨q_1, hq_1, h⟩ := o_bind h
  refine wcX1_100_X_52 C (kX9_isDone hq_1) (by decide) (Nat.le_of_ble_eq_true rfl) dX1_isWaiting_5 8 rfl ?_
  refine g_if_ne C 26 dX1_isWaiting_8 (by decide) 11 rfl (fun c_2 => ?_) (fun c_2 => ?_)
  · have h := o_neg h c_2
    refine g_iconst C (v := 0) dX1_isWaiting_26 (by decide) 27 rfl ?_
    exact g_zret C hr (by decide) dX1_isWaiting_27 h
  · have h := o_pos h c_2
    refine g_aload_n C dX1_isWaiting_11 rfl 0 rfl 12 rfl ?_
    refine wgX1_38_58 C dX1_isWaiting_12 15 rfl ?_
    refine g_iload_n C dX1_isWaiting_15 rfl 1 rfl 16 rfl ?_
    obtain ⟨q_3, hq_3, h⟩ := o_bind h
    refine wcX1_107_X_52 C (kX9_isUnderWay hq_3) (by decide) (Nat.le_of_ble_eq_true rfl) dX1_isWaiting_16 19 rfl ?_
    refine g_if_ne C 26 dX1_isWaiting_19 (by decide) 22 rfl (fun c_4 => ?_) (fun c_4 => ?_)
    · have h := o_neg h c_4
      refine g_iconst C (v := 0) dX1_isWaiting_26 (by decide) 27 rfl ?_
      exact g_zret C hr (by decide) dX1_isWaiting_27 h
    · have h := o_pos h c_4
      refine g_iconst C (v := 1) dX1_isWaiting_22 (by decide) 23 rfl ?_
      refine g_goto C 27 dX1_isWaiting_23 (by decide) ?_
      exact g_zret C hr (by decide) dX1_isWaiting_27 h
end WK
/-! X1_enqueue private void enqueue(int); -/
def fX1_enqueue (x1 : Int32) (σ : ST) : Option (ST) :=
  (Option.bind (fX4_hasStep x1 σ) (fun q_1 => (if q_1.1 = 0 then (some q_1.2) else (Option.bind (fX1_isWaiting x1 q_1.2) (fun q_3 => (if q_3.1 = 0 then (some q_3.2) else (if ((7 : Int32)) ≤ (gI q_3.2 22) then (some q_3.2) else (if ix (gI q_3.2 22) 7 then (lt (stA q_3.2 63 (gI q_3.2 22) x1) (fun σ_7 => (lt (sI σ_7 22 ((gI σ_7 22) + ((1 : Int32)))) (fun σ_8 => (some σ_8))))) else none))))))))
section WK
variable {p : Program} {l : Launch} {e : Env} {R : Room} {s : State} {m : MethodId} {args : Array Value} {below : List Frame} {meth : Method} {c : Code} {Q : State → Prop}
variable {D : va_G} {ad : Nat → Nat} {cI cJ cB cZ : ClassId} {A : Nat → Prop} {cc : ByteArray} {nL lev : Nat}
variable {σ : ST} {pc : Nat} {lv : List (Nat × Value)} {st : List Value}
set_option maxHeartbeats 4000000 in
set_option maxRecDepth 100000 in
theorem kX1_enqueue {l : Launch} {D : va_G} {ad : Nat → Nat} {cI cJ cB cZ : ClassId}  {x1 : Int32} {σ : ST} {res : ST} (h : fX1_enqueue x1 σ = some res) : CMv l D (tyz cI cJ cB cZ) (wX ad cI cJ cB cZ) 2 yX1_enqueue cX1_enqueue 2 none [.ref (ad 58), .int x1] σ res := by
  refine cmv_body (own := RX1) (lv := [(0, .ref (ad 58)), (1, .int x1)]) (by decide) rfl (wX_addr _ _ _ _ _) (Nat.le_of_ble_eq_true rfl) rfl (fun p e s m args below meth c A C hr => ?_)
  unfold fX1_enqueue at h
  refine g_aload_n C dX1_enqueue_0 rfl 0 rfl 1 rfl ?_
  refine wgX1_30_58 C dX1_enqueue_1 4 rfl ?_
  refine g_iload_n C dX1_enqueue_4 rfl 1 rfl 5 rfl ?_
  obtain ⟨q_1, hq_1, h⟩ := o_bind h
  refine wcX1_150_X_19 C (kX4_hasStep hq_1) (by decide) (Nat.le_of_ble_eq_true rfl) dX1_enqueue_5 8 rfl ?_
  refine g_if_eq C 48 dX1_enqueue_8 (by decide) 11 rfl (fun c_2 => ?_) (fun c_2 => ?_)
  · have h := o_pos h c_2
    exact g_vret C hr dX1_enqueue_48 h
  · have h := o_neg h c_2
    refine g_aload_n C dX1_enqueue_11 rfl 0 rfl 12 rfl ?_
    refine g_iload_n C dX1_enqueue_12 rfl 1 rfl 13 rfl ?_
    obtain ⟨q_3, hq_3, h⟩ := o_bind h
    refine wcX1_153_X_58 C (kX1_isWaiting hq_3) (by decide) (Nat.le_of_ble_eq_true rfl) dX1_enqueue_13 16 rfl ?_
    refine g_if_eq C 48 dX1_enqueue_16 (by decide) 19 rfl (fun c_4 => ?_) (fun c_4 => ?_)
    · have h := o_pos h c_4
      exact g_vret C hr dX1_enqueue_48 h
    · have h := o_neg h c_4
      refine g_aload_n C dX1_enqueue_19 rfl 0 rfl 20 rfl ?_
      refine wgX1_144_58 C dX1_enqueue_20 23 rfl ?_
      refine g_bipush C (v := 7) dX1_enqueue_23 (by decide) 25 rfl ?_
      refine g_icmp_ge C 48 dX1_enqueue_25 (by decide) 28 rfl (fun c_5 => ?_) (fun c_5 => ?_)
      · have h := o_pos h c_5
        exact g_vret C hr dX1_enqueue_48 h
      · have h := o_neg h c_5
        refine g_aload_n C dX1_enqueue_28 rfl 0 rfl 29 rfl ?_
        refine wgX1_24_58 C dX1_enqueue_29 32 rfl ?_
        refine g_aload_n C dX1_enqueue_32 rfl 0 rfl 33 rfl ?_
        refine wgX1_144_58 C dX1_enqueue_33 36 rfl ?_
        refine g_iload_n C dX1_enqueue_36 rfl 1 rfl 37 rfl ?_
        obtain ⟨c_6, h⟩ := o_chk h
        obtain ⟨σ_7, eσ_7, h⟩ := o_lt h
        refine wtX_63 C eσ_7 c_6 dX1_enqueue_37 38 rfl ?_
        refine g_aload_n C dX1_enqueue_38 rfl 0 rfl 39 rfl ?_
        refine g_dup C dX1_enqueue_39 rfl 40 rfl ?_
        refine wgX1_144_58 C dX1_enqueue_40 43 rfl ?_
        refine g_iconst C (v := 1) dX1_enqueue_43 (by decide) 44 rfl ?_
        refine g_iadd C dX1_enqueue_44 45 rfl ?_
        obtain ⟨σ_8, eσ_8, h⟩ := o_lt h
        refine wpX1_144_58 C eσ_8 dX1_enqueue_45 48 rfl ?_
        exact g_vret C hr dX1_enqueue_48 h
end WK
/-! X1_queueByNumbers private void queueByNumbers(); -/
def fX1_queueByNumbers_L7  : Nat → Int32 → ST → Option (ST)
  | 0, _, _ => none
  | n + 1, x1, σ => (if (gI σ 10) ≤ x1 then (some σ) else (Option.bind (fX1_enqueue x1 σ) (fun q_4 => (lt (x1 + 1) (fun x1_5 => (fX1_queueByNumbers_L7 n x1_5 q_4))))))
def fX1_queueByNumbers (n : Nat)  (σ : ST) : Option (ST) :=
  (lt (sI σ 22 ((0 : Int32))) (fun σ_1 => (lt ((0 : Int32)) (fun x1_2 => (fX1_queueByNumbers_L7 n x1_2 σ_1)))))
section WK
variable {p : Program} {l : Launch} {e : Env} {R : Room} {s : State} {m : MethodId} {args : Array Value} {below : List Frame} {meth : Method} {c : Code} {Q : State → Prop}
variable {D : va_G} {ad : Nat → Nat} {cI cJ cB cZ : ClassId} {A : Nat → Prop} {cc : ByteArray} {nL lev : Nat}
variable {σ : ST} {pc : Nat} {lv : List (Nat × Value)} {st : List Value}
set_option maxHeartbeats 4000000 in
set_option maxRecDepth 100000 in
theorem kX1_queueByNumbers_L7 (C : Ctx p l e (rmL 3) s m args below meth c D (tyz cI cJ cB cZ) (wX ad cI cJ cB cZ) A cX1_queueByNumbers 2 3 RX1) (hr : meth.sig.returnType = none) {res : ST}   : ∀ (n : Nat) (x1 : Int32) (σ : ST), fX1_queueByNumbers_L7 n x1 σ = some res → G p l e (rmL 3) s m args below meth c (MQ below (Qv D (tyz cI cJ cB cZ) (wX ad cI cJ cB cZ) A res) args s 0 0 A) D (wX ad cI cJ cB cZ) A 2 σ 7 [(0, .ref (ad 58)), (1, .int x1)] [] := by
  intro n
  induction n with
  | zero => intro x1 σ h; have h : none = some res := h; cases h
  | succ n ih =>
    intro x1 σ h
    rw [fX1_queueByNumbers_L7] at h
    refine g_iload_n C dX1_queueByNumbers_7 rfl 1 rfl 8 rfl ?_
    refine g_aload_n C dX1_queueByNumbers_8 rfl 0 rfl 9 rfl ?_
    refine wgX1_30_58 C dX1_queueByNumbers_9 12 rfl ?_
    refine wgX1_91_19 C dX1_queueByNumbers_12 15 rfl ?_
    refine g_icmp_ge C 29 dX1_queueByNumbers_15 (by decide) 18 rfl (fun c_3 => ?_) (fun c_3 => ?_)
    · have h := o_pos h c_3
      exact g_vret C hr dX1_queueByNumbers_29 h
    · have h := o_neg h c_3
      refine g_aload_n C dX1_queueByNumbers_18 rfl 0 rfl 19 rfl ?_
      refine g_iload_n C dX1_queueByNumbers_19 rfl 1 rfl 20 rfl ?_
      obtain ⟨q_4, hq_4, h⟩ := o_bind h
      refine wcX1_147_X_58 C (kX1_enqueue hq_4) (by decide) (Nat.le_of_ble_eq_true rfl) dX1_queueByNumbers_20 23 rfl ?_
      obtain ⟨x1_5, ex1_5, h⟩ := o_lt h
      refine g_iinc C (lv' := [(1, .int x1_5), (0, .ref (ad 58))]) ex1_5 dX1_queueByNumbers_23 1 rfl (by decide) (by decide) rfl 26 rfl ?_
      refine g_goto C 7 dX1_queueByNumbers_26 (by decide) ?_
      exact g_sub C [1, 0] rfl (ih x1_5 q_4 h)
set_option maxHeartbeats 4000000 in
set_option maxRecDepth 100000 in
theorem kX1_queueByNumbers {l : Launch} {D : va_G} {ad : Nat → Nat} {cI cJ cB cZ : ClassId}  {n : Nat}  {σ : ST} {res : ST} (h : fX1_queueByNumbers n σ = some res) : CMv l D (tyz cI cJ cB cZ) (wX ad cI cJ cB cZ) 3 yX1_queueByNumbers cX1_queueByNumbers 2 none [.ref (ad 58)] σ res := by
  refine cmv_body (own := RX1) (lv := [(0, .ref (ad 58))]) (by decide) rfl (wX_addr _ _ _ _ _) (Nat.le_of_ble_eq_true rfl) rfl (fun p e s m args below meth c A C hr => ?_)
  unfold fX1_queueByNumbers at h
  refine g_aload_n C dX1_queueByNumbers_0 rfl 0 rfl 1 rfl ?_
  refine g_iconst C (v := 0) dX1_queueByNumbers_1 (by decide) 2 rfl ?_
  obtain ⟨σ_1, eσ_1, h⟩ := o_lt h
  refine wpX1_144_58 C eσ_1 dX1_queueByNumbers_2 5 rfl ?_
  refine g_iconst C (v := 0) dX1_queueByNumbers_5 (by decide) 6 rfl ?_
  obtain ⟨x1_2, ex1_2, h⟩ := o_lt h
  refine g_istore_n C (lv' := [(1, .int x1_2), (0, .ref (ad 58))]) ex1_2 dX1_queueByNumbers_6 rfl (by decide) rfl 7 rfl ?_
  exact g_sub C [1, 0] rfl (kX1_queueByNumbers_L7 C hr  n x1_2 σ_1 h)
end WK
/-! X1_startRun private void startRun(); -/
def fX1_startRun_L20 (k63 : ST → Option (ST)) : Nat → Int32 → ST → Option (ST)
  | 0, _, _ => none
  | n + 1, x1, σ => (if (gI σ 10) ≤ x1 then (k63 σ) else (Option.bind (fX1_isWaiting x1 σ) (fun q_6 => (if q_6.1 = 0 then (if ix x1 7 then (if ix x1 7 then (lt (stA q_6.2 61 x1 (ldA q_6.2 60 x1)) (fun σ_10 => (lt (x1 + 1) (fun x1_11 => (fX1_startRun_L20 k63 n x1_11 σ_10))))) else none) else none) else (if ix x1 7 then (lt (stA q_6.2 61 x1 ((400 : Int32))) (fun σ_13 => (lt (x1 + 1) (fun x1_14 => (fX1_startRun_L20 k63 n x1_14 σ_13))))) else none)))))
def fX1_startRun_L65  : Nat → Int32 → ST → Option (ST)
  | 0, _, _ => none
  | n + 1, x1, σ => (if ((3 : Int32)) ≤ x1 then (some σ) else (if ix x1 3 then (lt (ldA σ 53 x1) (fun x2_19 => (Option.bind (fX4_hasStep x2_19 σ) (fun q_20 => (if q_20.1 = 0 then (if ix x1 3 then (lt (stA q_20.2 62 x1 ((gI q_20.2 18) + ((1 : Int32)))) (fun σ_23 => (lt (x1 + 1) (fun x1_24 => (fX1_startRun_L65 n x1_24 σ_23))))) else none) else (if ix x2_19 7 then (if ix x1 3 then (lt (stA q_20.2 62 x1 ((ldA q_20.2 60 x2_19) + ((1 : Int32)))) (fun σ_27 => (lt (x1 + 1) (fun x1_28 => (fX1_startRun_L65 n x1_28 σ_27))))) else none) else none)))))) else none))
def fX1_startRun (n : Nat)  (σ : ST) : Option (ST) :=
  (lt (sI σ 26 (gI σ 25)) (fun σ_1 => (lt (sI σ_1 27 ((0 : Int32))) (fun σ_2 => (lt (sI σ_2 23 ((0 : Int32))) (fun σ_3 => (lt ((0 : Int32)) (fun x1_4 => (fX1_startRun_L20 (fun (σ_15 : ST) => (lt ((0 : Int32)) (fun x1_16 => (fX1_startRun_L65 n x1_16 σ_15)))) n x1_4 σ_3)))))))))
section WK
variable {p : Program} {l : Launch} {e : Env} {R : Room} {s : State} {m : MethodId} {args : Array Value} {below : List Frame} {meth : Method} {c : Code} {Q : State → Prop}
variable {D : va_G} {ad : Nat → Nat} {cI cJ cB cZ : ClassId} {A : Nat → Prop} {cc : ByteArray} {nL lev : Nat}
variable {σ : ST} {pc : Nat} {lv : List (Nat × Value)} {st : List Value}
set_option maxHeartbeats 4000000 in
set_option maxRecDepth 100000 in
theorem kX1_startRun_L20 (C : Ctx p l e (rmL 2) s m args below meth c D (tyz cI cJ cB cZ) (wX ad cI cJ cB cZ) A cX1_startRun 3 2 RX1) (hr : meth.sig.returnType = none) {res : ST} {k63 : ST → Option (ST)} (hk63 : ∀ (σ : ST), k63 σ = some res → G p l e (rmL 2) s m args below meth c (MQ below (Qv D (tyz cI cJ cB cZ) (wX ad cI cJ cB cZ) A res) args s 0 0 A) D (wX ad cI cJ cB cZ) A 3 σ 63 [(0, .ref (ad 58))] []) : ∀ (n : Nat) (x1 : Int32) (σ : ST), fX1_startRun_L20 k63 n x1 σ = some res → G p l e (rmL 2) s m args below meth c (MQ below (Qv D (tyz cI cJ cB cZ) (wX ad cI cJ cB cZ) A res) args s 0 0 A) D (wX ad cI cJ cB cZ) A 3 σ 20 [(0, .ref (ad 58)), (1, .int x1)] [] := by
  intro n
  induction n with
  | zero => intro x1 σ h; have h : none = some res := h; cases h
  | succ n ih =>
    intro x1 σ h
    rw [fX1_startRun_L20] at h
    refine g_iload_n C dX1_startRun_20 rfl 1 rfl 21 rfl ?_
    refine g_aload_n C dX1_startRun_21 rfl 0 rfl 22 rfl ?_
    refine wgX1_30_58 C dX1_startRun_22 25 rfl ?_
    refine wgX1_91_19 C dX1_startRun_25 28 rfl ?_
    refine g_icmp_ge C 63 dX1_startRun_28 (by decide) 31 rfl (fun c_5 => ?_) (fun c_5 => ?_)
    · have h := o_pos h c_5
      exact g_sub C [0] rfl (hk63 σ h)
    · have h := o_neg h c_5
      refine g_aload_n C dX1_startRun_31 rfl 0 rfl 32 rfl ?_
      refine wgX1_18_58 C dX1_startRun_32 35 rfl ?_
      refine g_iload_n C dX1_startRun_35 rfl 1 rfl 36 rfl ?_
      refine g_aload_n C dX1_startRun_36 rfl 0 rfl 37 rfl ?_
      refine g_iload_n C dX1_startRun_37 rfl 1 rfl 38 rfl ?_
      obtain ⟨q_6, hq_6, h⟩ := o_bind h
      refine wcX1_153_X_58 C (kX1_isWaiting hq_6) (by decide) (Nat.le_of_ble_eq_true rfl) dX1_startRun_38 41 rfl ?_
      refine g_if_eq C 50 dX1_startRun_41 (by decide) 44 rfl (fun c_7 => ?_) (fun c_7 => ?_)
      · have h := o_pos h c_7
        refine g_aload_n C dX1_startRun_50 rfl 0 rfl 51 rfl ?_
        refine wgX1_15_58 C dX1_startRun_51 54 rfl ?_
        refine g_iload_n C dX1_startRun_54 rfl 1 rfl 55 rfl ?_
        obtain ⟨c_8, h⟩ := o_chk h
        refine wlX_60 C c_8 dX1_startRun_55 56 rfl ?_
        obtain ⟨c_9, h⟩ := o_chk h
        obtain ⟨σ_10, eσ_10, h⟩ := o_lt h
        refine wtX_61 C eσ_10 c_9 dX1_startRun_56 57 rfl ?_
        obtain ⟨x1_11, ex1_11, h⟩ := o_lt h
        refine g_iinc C (lv' := [(1, .int x1_11), (0, .ref (ad 58))]) ex1_11 dX1_startRun_57 1 rfl (by decide) (by decide) rfl 60 rfl ?_
        refine g_goto C 20 dX1_startRun_60 (by decide) ?_
        exact g_sub C [1, 0] rfl (ih x1_11 σ_10 h)
      · have h := o_neg h c_7
        refine g_sipush C (v := 400) dX1_startRun_44 (by decide) 47 rfl ?_
        refine g_goto C 56 dX1_startRun_47 (by decide) ?_
        obtain ⟨c_12, h⟩ := o_chk h
        obtain ⟨σ_13, eσ_13, h⟩ := o_lt h
        refine wtX_61 C eσ_13 c_12 dX1_startRun_56 57 rfl ?_
        obtain ⟨x1_14, ex1_14, h⟩ := o_lt h
        refine g_iinc C (lv' := [(1, .int x1_14), (0, .ref (ad 58))]) ex1_14 dX1_startRun_57 1 rfl (by decide) (by decide) rfl 60 rfl ?_
        refine g_goto C 20 dX1_startRun_60 (by decide) ?_
        exact g_sub C [1, 0] rfl (ih x1_14 σ_13 h)
set_option maxHeartbeats 4000000 in
set_option maxRecDepth 100000 in
theorem kX1_startRun_L65 (C : Ctx p l e (rmL 2) s m args below meth c D (tyz cI cJ cB cZ) (wX ad cI cJ cB cZ) A cX1_startRun 3 2 RX1) (hr : meth.sig.returnType = none) {res : ST}   : ∀ (n : Nat) (x1 : Int32) (σ : ST), fX1_startRun_L65 n x1 σ = some res → G p l e (rmL 2) s m args below meth c (MQ below (Qv D (tyz cI cJ cB cZ) (wX ad cI cJ cB cZ) A res) args s 0 0 A) D (wX ad cI cJ cB cZ) A 3 σ 65 [(0, .ref (ad 58)), (1, .int x1)] [] := by
  intro n
  induction n with
  | zero => intro x1 σ h; have h : none = some res := h; cases h
  | succ n ih =>
    intro x1 σ h
    rw [fX1_startRun_L65] at h
    refine g_iload_n C dX1_startRun_65 rfl 1 rfl 66 rfl ?_
    refine g_iconst C (v := 3) dX1_startRun_66 (by decide) 67 rfl ?_
    refine g_icmp_ge C 123 dX1_startRun_67 (by decide) 70 rfl (fun c_17 => ?_) (fun c_17 => ?_)
    · have h := o_pos h c_17
      exact g_vret C hr dX1_startRun_123 h
    · have h := o_neg h c_17
      refine g_aload_n C dX1_startRun_70 rfl 0 rfl 71 rfl ?_
      refine wgX1_38_58 C dX1_startRun_71 74 rfl ?_
      refine wgX1_195_52 C dX1_startRun_74 77 rfl ?_
      refine g_iload_n C dX1_startRun_77 rfl 1 rfl 78 rfl ?_
      obtain ⟨c_18, h⟩ := o_chk h
      refine wlX_53 C c_18 dX1_startRun_78 79 rfl ?_
      obtain ⟨x2_19, ex2_19, h⟩ := o_lt h
      refine g_istore_n C (lv' := [(2, .int x2_19), (0, .ref (ad 58)), (1, .int x1)]) ex2_19 dX1_startRun_79 rfl (by decide) rfl 80 rfl ?_
      refine g_aload_n C dX1_startRun_80 rfl 1 rfl 81 rfl ?_
      refine wgX1_21_58 C dX1_startRun_81 84 rfl ?_
      refine g_iload_n C dX1_startRun_84 rfl 2 rfl 85 rfl ?_
      refine g_aload_n C dX1_startRun_85 rfl 1 rfl 86 rfl ?_
      refine wgX1_30_58 C dX1_startRun_86 89 rfl ?_
      refine g_iload_n C dX1_startRun_89 rfl 0 rfl 90 rfl ?_
      obtain ⟨q_20, hq_20, h⟩ := o_bind h
      refine wcX1_150_X_19 C (kX4_hasStep hq_20) (by decide) (Nat.le_of_ble_eq_true rfl) dX1_startRun_90 93 rfl ?_
      refine g_if_eq C 107 dX1_startRun_93 (by decide) 96 rfl (fun c_21 => ?_) (fun c_21 => ?_)
      · have h := o_pos h c_21
        refine g_aload_n C dX1_startRun_107 rfl 1 rfl 108 rfl ?_
        refine wgX1_38_58 C dX1_startRun_108 111 rfl ?_
        refine wgX1_110_52 C dX1_startRun_111 114 rfl ?_
        refine g_iconst C (v := 1) dX1_startRun_114 (by decide) 115 rfl ?_
        refine g_iadd C dX1_startRun_115 116 rfl ?_
        obtain ⟨c_22, h⟩ := o_chk h
        obtain ⟨σ_23, eσ_23, h⟩ := o_lt h
        refine wtX_62 C eσ_23 c_22 dX1_startRun_116 117 rfl ?_
        obtain ⟨x1_24, ex1_24, h⟩ := o_lt h
        refine g_iinc C (lv' := [(1, .int x1_24), (2, .int x2_19), (0, .ref (ad 58))]) ex1_24 dX1_startRun_117 2 rfl (by decide) (by decide) rfl 120 rfl ?_
        refine g_goto C 65 dX1_startRun_120 (by decide) ?_
        exact g_sub C [2, 0] rfl (ih x1_24 σ_23 h)
      · have h := o_neg h c_21
        refine g_aload_n C dX1_startRun_96 rfl 1 rfl 97 rfl ?_
        refine wgX1_15_58 C dX1_startRun_97 100 rfl ?_
        refine g_iload_n C dX1_startRun_100 rfl 0 rfl 101 rfl ?_
        obtain ⟨c_25, h⟩ := o_chk h
        refine wlX_60 C c_25 dX1_startRun_101 102 rfl ?_
        refine g_iconst C (v := 1) dX1_startRun_102 (by decide) 103 rfl ?_
        refine g_iadd C dX1_startRun_103 104 rfl ?_
        refine g_goto C 116 dX1_startRun_104 (by decide) ?_
        obtain ⟨c_26, h⟩ := o_chk h
        obtain ⟨σ_27, eσ_27, h⟩ := o_lt h
        refine wtX_62 C eσ_27 c_26 dX1_startRun_116 117 rfl ?_
        obtain ⟨x1_28, ex1_28, h⟩ := o_lt h
        refine g_iinc C (lv' := [(1, .int x1_28), (2, .int x2_19), (0, .ref (ad 58))]) ex1_28 dX1_startRun_117 2 rfl (by decide) (by decide) rfl 120 rfl ?_
        refine g_goto C 65 dX1_startRun_120 (by decide) ?_
        exact g_sub C [2, 0] rfl (ih x1_28 σ_27 h)
set_option maxHeartbeats 4000000 in
set_option maxRecDepth 100000 in
theorem kX1_startRun {l : Launch} {D : va_G} {ad : Nat → Nat} {cI cJ cB cZ : ClassId}  {n : Nat}  {σ : ST} {res : ST} (h : fX1_startRun n σ = some res) : CMv l D (tyz cI cJ cB cZ) (wX ad cI cJ cB cZ) 2 yX1_startRun cX1_startRun 3 none [.ref (ad 58)] σ res := by
  refine cmv_body (own := RX1) (lv := [(0, .ref (ad 58))]) (by decide) rfl (wX_addr _ _ _ _ _) (Nat.le_of_ble_eq_true rfl) rfl (fun p e s m args below meth c A C hr => ?_)
  unfold fX1_startRun at h
  refine g_aload_n C dX1_startRun_0 rfl 0 rfl 1 rfl ?_
  refine g_aload_n C dX1_startRun_1 rfl 0 rfl 2 rfl ?_
  refine wgX1_81_58 C dX1_startRun_2 5 rfl ?_
  obtain ⟨σ_1, eσ_1, h⟩ := o_lt h
  refine wpX1_74_58 C eσ_1 dX1_startRun_5 8 rfl ?_
  refine g_aload_n C dX1_startRun_8 rfl 0 rfl 9 rfl ?_
  refine g_iconst C (v := 0) dX1_startRun_9 (by decide) 10 rfl ?_
  obtain ⟨σ_2, eσ_2, h⟩ := o_lt h
  refine wpX1_192_58 C eσ_2 dX1_startRun_10 13 rfl ?_
  refine g_aload_n C dX1_startRun_13 rfl 0 rfl 14 rfl ?_
  refine g_iconst C (v := 0) dX1_startRun_14 (by decide) 15 rfl ?_
  obtain ⟨σ_3, eσ_3, h⟩ := o_lt h
  refine wpX1_181_58 C eσ_3 dX1_startRun_15 18 rfl ?_
  refine g_iconst C (v := 0) dX1_startRun_18 (by decide) 19 rfl ?_
  obtain ⟨x1_4, ex1_4, h⟩ := o_lt h
  refine g_istore_n C (lv' := [(1, .int x1_4), (0, .ref (ad 58))]) ex1_4 dX1_startRun_19 rfl (by decide) rfl 20 rfl ?_
  exact g_sub C [1, 0] rfl (kX1_startRun_L20 C hr (fun σ_15 h => by
      refine g_iconst C (v := 0) dX1_startRun_63 (by decide) 64 rfl ?_
      obtain ⟨x1_16, ex1_16, h⟩ := o_lt h
      refine g_istore_n C (lv' := [(1, .int x1_16), (0, .ref (ad 58))]) ex1_16 dX1_startRun_64 rfl (by decide) rfl 65 rfl ?_
      exact g_sub C [1, 0] rfl (kX1_startRun_L65 C hr  n x1_16 σ_15 h)) n x1_4 σ_3 h)
end WK
/-! J6_bitCount_0f7a4 public static int bitCount(int) -/
def fJ6_bitCount_0f7a4 (x0 : Int32) (σ : ST) : Option (Int32 × ST) :=
  (lt (x0 - (((x0.toUInt32 >>> (((1 : Int32)).toUInt32 &&& Int32.toUInt32 31)).toInt32) &&& ((1431655765 : Int32)))) (fun x0_1 => (lt ((x0_1 &&& ((858993459 : Int32))) + (((x0_1.toUInt32 >>> (((2 : Int32)).toUInt32 &&& Int32.toUInt32 31)).toInt32) &&& ((858993459 : Int32)))) (fun x0_2 => (lt ((x0_2 + ((x0_2.toUInt32 >>> (((4 : Int32)).toUInt32 &&& Int32.toUInt32 31)).toInt32)) &&& ((252645135 : Int32))) (fun x0_3 => (lt (x0_3 + ((x0_3.toUInt32 >>> (((8 : Int32)).toUInt32 &&& Int32.toUInt32 31)).toInt32)) (fun x0_4 => (lt (x0_4 + ((x0_4.toUInt32 >>> (((16 : Int32)).toUInt32 &&& Int32.toUInt32 31)).toInt32)) (fun x0_5 => (some (x0_5 &&& ((63 : Int32)), σ))))))))))))
section WK
variable {p : Program} {l : Launch} {e : Env} {R : Room} {s : State} {m : MethodId} {args : Array Value} {below : List Frame} {meth : Method} {c : Code} {Q : State → Prop}
variable {D : va_G} {ad : Nat → Nat} {cI cJ cB cZ : ClassId} {A : Nat → Prop} {cc : ByteArray} {nL lev : Nat}
variable {σ : ST} {pc : Nat} {lv : List (Nat × Value)} {st : List Value}
set_option maxHeartbeats 4000000 in
set_option maxRecDepth 100000 in
theorem kJ6_bitCount_0f7a4 {l : Launch} {D : va_G} {ad : Nat → Nat} {cI cJ cB cZ : ClassId}  {x0 : Int32} {σ : ST} {res : Int32 × ST} (h : fJ6_bitCount_0f7a4 x0 σ = some res) : CMi l D (tyz cI cJ cB cZ) (wX ad cI cJ cB cZ) 0 yJ6_bitCount_0f7a4 cJ6_bitCount_0f7a4 1 (some .int) [.int x0] σ res := by
  refine cmi_body (own := RJ6) (lv := [(0, .int x0)]) (by decide) rfl (wX_addr _ _ _ _ _) (Nat.le_of_ble_eq_true rfl) rfl (fun p e s m args below meth c A C hr => ?_)
  unfold fJ6_bitCount_0f7a4 at h
  refine g_iload_n C dJ6_bitCount_0f7a4_0 rfl 0 rfl 1 rfl ?_
  refine g_iload_n C dJ6_bitCount_0f7a4_1 rfl 0 rfl 2 rfl ?_
  refine g_iconst C (v := 1) dJ6_bitCount_0f7a4_2 (by decide) 3 rfl ?_
  refine g_iushr C dJ6_bitCount_0f7a4_3 4 rfl ?_
  refine g_ldcw C (inr_37 _ (List.mem_of_getElem? (i := 12) rfl)) dJ6_bitCount_0f7a4_4 7 rfl ?_
  refine g_iand C dJ6_bitCount_0f7a4_7 8 rfl ?_
  refine g_isub C dJ6_bitCount_0f7a4_8 9 rfl ?_
  obtain ⟨x0_1, ex0_1, h⟩ := o_lt h
  refine g_istore_n C (lv' := [(0, .int x0_1)]) ex0_1 dJ6_bitCount_0f7a4_9 rfl (by decide) rfl 10 rfl ?_
  refine g_iload_n C dJ6_bitCount_0f7a4_10 rfl 0 rfl 11 rfl ?_
  refine g_ldcw C (inr_37 _ (List.mem_of_getElem? (i := 13) rfl)) dJ6_bitCount_0f7a4_11 14 rfl ?_
  refine g_iand C dJ6_bitCount_0f7a4_14 15 rfl ?_
  refine g_iload_n C dJ6_bitCount_0f7a4_15 rfl 0 rfl 16 rfl ?_
  refine g_iconst C (v := 2) dJ6_bitCount_0f7a4_16 (by decide) 17 rfl ?_
  refine g_iushr C dJ6_bitCount_0f7a4_17 18 rfl ?_
  refine g_ldcw C (inr_37 _ (List.mem_of_getElem? (i := 13) rfl)) dJ6_bitCount_0f7a4_18 21 rfl ?_
  refine g_iand C dJ6_bitCount_0f7a4_21 22 rfl ?_
  refine g_iadd C dJ6_bitCount_0f7a4_22 23 rfl ?_
  obtain ⟨x0_2, ex0_2, h⟩ := o_lt h
  refine g_istore_n C (lv' := [(0, .int x0_2)]) ex0_2 dJ6_bitCount_0f7a4_23 rfl (by decide) rfl 24 rfl ?_
  refine g_iload_n C dJ6_bitCount_0f7a4_24 rfl 0 rfl 25 rfl ?_
  refine g_iload_n C dJ6_bitCount_0f7a4_25 rfl 0 rfl 26 rfl ?_
  refine g_iconst C (v := 4) dJ6_bitCount_0f7a4_26 (by decide) 27 rfl ?_
  refine g_iushr C dJ6_bitCount_0f7a4_27 28 rfl ?_
  refine g_iadd C dJ6_bitCount_0f7a4_28 29 rfl ?_
  refine g_ldcw C (inr_37 _ (List.mem_of_getElem? (i := 14) rfl)) dJ6_bitCount_0f7a4_29 32 rfl ?_
  refine g_iand C dJ6_bitCount_0f7a4_32 33 rfl ?_
  obtain ⟨x0_3, ex0_3, h⟩ := o_lt h
  refine g_istore_n C (lv' := [(0, .int x0_3)]) ex0_3 dJ6_bitCount_0f7a4_33 rfl (by decide) rfl 34 rfl ?_
  refine g_iload_n C dJ6_bitCount_0f7a4_34 rfl 0 rfl 35 rfl ?_
  refine g_iload_n C dJ6_bitCount_0f7a4_35 rfl 0 rfl 36 rfl ?_
  refine g_bipush C (v := 8) dJ6_bitCount_0f7a4_36 (by decide) 38 rfl ?_
  refine g_iushr C dJ6_bitCount_0f7a4_38 39 rfl ?_
  refine g_iadd C dJ6_bitCount_0f7a4_39 40 rfl ?_
  obtain ⟨x0_4, ex0_4, h⟩ := o_lt h
  refine g_istore_n C (lv' := [(0, .int x0_4)]) ex0_4 dJ6_bitCount_0f7a4_40 rfl (by decide) rfl 41 rfl ?_
  refine g_iload_n C dJ6_bitCount_0f7a4_41 rfl 0 rfl 42 rfl ?_
  refine g_iload_n C dJ6_bitCount_0f7a4_42 rfl 0 rfl 43 rfl ?_
  refine g_bipush C (v := 16) dJ6_bitCount_0f7a4_43 (by decide) 45 rfl ?_
  refine g_iushr C dJ6_bitCount_0f7a4_45 46 rfl ?_
  refine g_iadd C dJ6_bitCount_0f7a4_46 47 rfl ?_
  obtain ⟨x0_5, ex0_5, h⟩ := o_lt h
  refine g_istore_n C (lv' := [(0, .int x0_5)]) ex0_5 dJ6_bitCount_0f7a4_47 rfl (by decide) rfl 48 rfl ?_
  refine g_iload_n C dJ6_bitCount_0f7a4_48 rfl 0 rfl 49 rfl ?_
  refine g_bipush C (v := 63) dJ6_bitCount_0f7a4_49 (by decide) 51 rfl ?_
  refine g_iand C dJ6_bitCount_0f7a4_51 52 rfl ?_
  exact g_iret C hr dJ6_bitCount_0f7a4_52 h
end WK
/-! X1_isOpen private boolean isOpen(int); -/
def fX1_isOpen (x1 : Int32) (σ : ST) : Option (Int32 × ST) :=
  (if x1 ≤ (gI σ 26) then (some ((0 : Int32), σ)) else (Option.bind (fJ6_bitCount_0f7a4 (gI σ 23) σ) (fun q_2 => (if (gI q_2.2 22) ≤ q_2.1 then (some ((0 : Int32), q_2.2)) else (some ((1 : Int32), q_2.2))))))
section WK
variable {p : Program} {l : Launch} {e : Env} {R : Room} {s : State} {m : MethodId} {args : Array Value} {below : List Frame} {meth : Method} {c : Code} {Q : State → Prop}
variable {D : va_G} {ad : Nat → Nat} {cI cJ cB cZ : ClassId} {A : Nat → Prop} {cc : ByteArray} {nL lev : Nat}
variable {σ : ST} {pc : Nat} {lv : List (Nat × Value)} {st : List Value}
set_option maxHeartbeats 4000000 in
set_option maxRecDepth 100000 in
theorem kX1_isOpen {l : Launch} {D : va_G} {ad : Nat → Nat} {cI cJ cB cZ : ClassId}  {x1 : Int32} {σ : ST} {res : Int32 × ST} (h : fX1_isOpen x1 σ = some res) : CMi l D (tyz cI cJ cB cZ) (wX ad cI cJ cB cZ) 1 yX1_isOpen cX1_isOpen 2 (some .boolean) [.ref (ad 58), .int x1] σ res := by
  refine cmi_body (own := RX1) (lv := [(0, .ref (ad 58)), (1, .int x1)]) (by decide) rfl (wX_addr _ _ _ _ _) (Nat.le_of_ble_eq_true rfl) rfl (fun p e s m args below meth c A C hr => ?_)
  unfold fX1_isOpen at h
  refine g_aload_n C dX1_isOpen_0 rfl 0 rfl 1 rfl ?_
  refine wgX1_74_58 C dX1_isOpen_1 4 rfl ?_
  refine g_iload_n C dX1_isOpen_4 rfl 1 rfl 5 rfl ?_
  refine g_icmp_ge C 26 dX1_isOpen_5 (by decide) 8 rfl (fun c_1 => ?_) (fun c_1 => ?_)
  · have h := o_pos h c_1
    refine g_iconst C (v := 0) dX1_isOpen_26 (by decide) 27 rfl ?_
    exact g_zret C hr (by decide) dX1_isOpen_27 h
  · have h := o_neg h c_1
    refine g_aload_n C dX1_isOpen_8 rfl 0 rfl 9 rfl ?_
    refine wgX1_181_58 C dX1_isOpen_9 12 rfl ?_
    obtain ⟨q_2, hq_2, h⟩ := o_bind h
    refine wcX1_187_X C (kJ6_bitCount_0f7a4 hq_2) (by decide) (Nat.le_of_ble_eq_true rfl) dX1_isOpen_12 15 rfl ?_
    refine g_aload_n C dX1_isOpen_15 rfl 0 rfl 16 rfl ?_
    refine wgX1_144_58 C dX1_isOpen_16 19 rfl ?_
    refine g_icmp_ge C 26 dX1_isOpen_19 (by decide) 22 rfl (fun c_3 => ?_) (fun c_3 => ?_)
    · have h := o_pos h c_3
      refine g_iconst C (v := 0) dX1_isOpen_26 (by decide) 27 rfl ?_
      exact g_zret C hr (by decide) dX1_isOpen_27 h
    · have h := o_neg h c_3
      refine g_iconst C (v := 1) dX1_isOpen_22 (by decide) 23 rfl ?_
      refine g_goto C 27 dX1_isOpen_23 (by decide) ?_
      exact g_zret C hr (by decide) dX1_isOpen_27 h
end WK
/-! X1_noteEnded private void noteEnded(int); -/
def fX1_noteEnded_L7  : Nat → Int32 → Int32 → ST → Option (ST)
  | 0, _, _, _ => none
  | n + 1, x1, x2, σ => (if (gI σ 10) ≤ x2 then (some σ) else (if ix x2 7 then (if x1 ≤ (ldA σ 61 x2) then (lt (x2 + 1) (fun x2_6 => (fX1_noteEnded_L7 n x1 x2_6 σ))) else (lt (sI σ 24 ((gI σ 24) ||| (((1 : Int32)) <<< (x2 &&& 31)))) (fun σ_7 => (lt (x2 + 1) (fun x2_8 => (fX1_noteEnded_L7 n x1 x2_8 σ_7)))))) else none))
def fX1_noteEnded (n : Nat) (x1 : Int32) (σ : ST) : Option (ST) :=
  (lt (sI σ 24 ((0 : Int32))) (fun σ_1 => (lt ((0 : Int32)) (fun x2_2 => (fX1_noteEnded_L7 n x1 x2_2 σ_1)))))
section WK
variable {p : Program} {l : Launch} {e : Env} {R : Room} {s : State} {m : MethodId} {args : Array Value} {below : List Frame} {meth : Method} {c : Code} {Q : State → Prop}
variable {D : va_G} {ad : Nat → Nat} {cI cJ cB cZ : ClassId} {A : Nat → Prop} {cc : ByteArray} {nL lev : Nat}
variable {σ : ST} {pc : Nat} {lv : List (Nat × Value)} {st : List Value}
set_option maxHeartbeats 4000000 in
set_option maxRecDepth 100000 in
theorem kX1_noteEnded_L7 (C : Ctx p l e (rmL 0) s m args below meth c D (tyz cI cJ cB cZ) (wX ad cI cJ cB cZ) A cX1_noteEnded 3 0 RX1) (hr : meth.sig.returnType = none) {res : ST}   : ∀ (n : Nat) (x1 : Int32) (x2 : Int32) (σ : ST), fX1_noteEnded_L7 n x1 x2 σ = some res → G p l e (rmL 0) s m args below meth c (MQ below (Qv D (tyz cI cJ cB cZ) (wX ad cI cJ cB cZ) A res) args s 0 0 A) D (wX ad cI cJ cB cZ) A 3 σ 7 [(0, .ref (ad 58)), (1, .int x1), (2, .int x2)] [] := by
  intro n
  induction n with
  | zero => intro x1 x2 σ h; have h : none = some res := h; cases h
  | succ n ih =>
    intro x1 x2 σ h
    rw [fX1_noteEnded_L7] at h
    refine g_iload_n C dX1_noteEnded_7 rfl 2 rfl 8 rfl ?_
    refine g_aload_n C dX1_noteEnded_8 rfl 0 rfl 9 rfl ?_
    refine wgX1_30_58 C dX1_noteEnded_9 12 rfl ?_
    refine wgX1_91_19 C dX1_noteEnded_12 15 rfl ?_
    refine g_icmp_ge C 46 dX1_noteEnded_15 (by decide) 18 rfl (fun c_3 => ?_) (fun c_3 => ?_)
    · have h := o_pos h c_3
      exact g_vret C hr dX1_noteEnded_46 h
    · have h := o_neg h c_3
      refine g_aload_n C dX1_noteEnded_18 rfl 0 rfl 19 rfl ?_
      refine wgX1_18_58 C dX1_noteEnded_19 22 rfl ?_
      refine g_iload_n C dX1_noteEnded_22 rfl 2 rfl 23 rfl ?_
      obtain ⟨c_4, h⟩ := o_chk h
      refine wlX_61 C c_4 dX1_noteEnded_23 24 rfl ?_
      refine g_iload_n C dX1_noteEnded_24 rfl 1 rfl 25 rfl ?_
      refine g_icmp_ge C 40 dX1_noteEnded_25 (by decide) 28 rfl (fun c_5 => ?_) (fun c_5 => ?_)
      · have h := o_pos h c_5
        obtain ⟨x2_6, ex2_6, h⟩ := o_lt h
        refine g_iinc C (lv' := [(2, .int x2_6), (0, .ref (ad 58)), (1, .int x1)]) ex2_6 dX1_noteEnded_40 2 rfl (by decide) (by decide) rfl 43 rfl ?_
        refine g_goto C 7 dX1_noteEnded_43 (by decide) ?_
        exact g_sub C [1, 2, 0] rfl (ih x1 x2_6 σ h)
      · have h := o_neg h c_5
        refine g_aload_n C dX1_noteEnded_28 rfl 0 rfl 29 rfl ?_
        refine g_dup C dX1_noteEnded_29 rfl 30 rfl ?_
        refine wgX1_198_58 C dX1_noteEnded_30 33 rfl ?_
        refine g_iconst C (v := 1) dX1_noteEnded_33 (by decide) 34 rfl ?_
        refine g_iload_n C dX1_noteEnded_34 rfl 2 rfl 35 rfl ?_
        refine g_ishl C dX1_noteEnded_35 36 rfl ?_
        refine g_ior C dX1_noteEnded_36 37 rfl ?_
        obtain ⟨σ_7, eσ_7, h⟩ := o_lt h
        refine wpX1_198_58 C eσ_7 dX1_noteEnded_37 40 rfl ?_
        obtain ⟨x2_8, ex2_8, h⟩ := o_lt h
        refine g_iinc C (lv' := [(2, .int x2_8), (0, .ref (ad 58)), (1, .int x1)]) ex2_8 dX1_noteEnded_40 2 rfl (by decide) (by decide) rfl 43 rfl ?_
        refine g_goto C 7 dX1_noteEnded_43 (by decide) ?_
        exact g_sub C [1, 2, 0] rfl (ih x1 x2_8 σ_7 h)
set_option maxHeartbeats 4000000 in
set_option maxRecDepth 100000 in
theorem kX1_noteEnded {l : Launch} {D : va_G} {ad : Nat → Nat} {cI cJ cB cZ : ClassId}  {n : Nat} {x1 : Int32} {σ : ST} {res : ST} (h : fX1_noteEnded n x1 σ = some res) : CMv l D (tyz cI cJ cB cZ) (wX ad cI cJ cB cZ) 0 yX1_noteEnded cX1_noteEnded 3 none [.ref (ad 58), .int x1] σ res := by
  refine cmv_body (own := RX1) (lv := [(0, .ref (ad 58)), (1, .int x1)]) (by decide) rfl (wX_addr _ _ _ _ _) (Nat.le_of_ble_eq_true rfl) rfl (fun p e s m args below meth c A C hr => ?_)
  unfold fX1_noteEnded at h
  refine g_aload_n C dX1_noteEnded_0 rfl 0 rfl 1 rfl ?_
  refine g_iconst C (v := 0) dX1_noteEnded_1 (by decide) 2 rfl ?_
  obtain ⟨σ_1, eσ_1, h⟩ := o_lt h
  refine wpX1_198_58 C eσ_1 dX1_noteEnded_2 5 rfl ?_
  refine g_iconst C (v := 0) dX1_noteEnded_5 (by decide) 6 rfl ?_
  obtain ⟨x2_2, ex2_2, h⟩ := o_lt h
  refine g_istore_n C (lv' := [(2, .int x2_2), (0, .ref (ad 58)), (1, .int x1)]) ex2_2 dX1_noteEnded_6 rfl (by decide) rfl 7 rfl ?_
  exact g_sub C [1, 2, 0] rfl (kX1_noteEnded_L7 C hr  n x1 x2_2 σ_1 h)
end WK
