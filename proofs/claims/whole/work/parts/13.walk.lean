/-! X5_load int load(int, int, int); -/
def fX5_load (x1 : Int32) (x2 : Int32) (x3 : Int32) (σ : ST) : Option (Int32 × ST) :=
  (Option.bind (fX0_add x1 x2 x3 σ) (fun q_1 => (if ix x1 6 then (if ix x1 6 then (lt (stA q_1 33 x1 ((ldA q_1 33 x1) + ((1 : Int32)))) (fun σ_4 => (if ix x1 6 then (some (ldA σ_4 33 x1, σ_4)) else none))) else none) else none)))
section WK
variable {p : Program} {l : Launch} {e : Env} {R : Room} {s : State} {m : MethodId} {args : Array Value} {below : List Frame} {meth : Method} {c : Code} {Q : State → Prop}
variable {D : va_G} {ad : Nat → Nat} {cI cJ cB cZ : ClassId} {A : Nat → Prop} {cc : ByteArray} {nL lev : Nat}
variable {σ : ST} {pc : Nat} {lv : List (Nat × Value)} {st : List Value}
set_option maxHeartbeats 4000000 in
set_option maxRecDepth 100000 in
theorem kX5_load {l : Launch} {D : va_G} {ad : Nat → Nat} {cI cJ cB cZ : ClassId}  {x1 : Int32} {x2 : Int32} {x3 : Int32} {σ : ST} {res : Int32 × ST} (h : fX5_load x1 x2 x3 σ = some res) : CMi l D (tyz cI cJ cB cZ) (wX ad cI cJ cB cZ) 2 yX5_load cX5_load 4 (some .int) [.ref (ad 30), .int x1, .int x2, .int x3] σ res := by
  refine cmi_body (own := RX5) (lv := [(0, .ref (ad 30)), (1, .int x1), (2, .int x2), (3, .int x3)]) (by decide) rfl (wX_addr _ _ _ _ _) (Nat.le_of_ble_eq_true rfl) rfl (fun p e s m args below meth c A C hr => ?_)
  unfold fX5_load at h
  refine g_aload_n C dX5_load_0 rfl 0 rfl 1 rfl ?_
  refine wgX5_38_30 C dX5_load_1 4 rfl ?_
  refine g_iload_n C dX5_load_4 rfl 1 rfl 5 rfl ?_
  refine g_iload_n C dX5_load_5 rfl 2 rfl 6 rfl ?_
  refine g_iload_n C dX5_load_6 rfl 3 rfl 7 rfl ?_
  obtain ⟨q_1, hq_1, h⟩ := o_bind h
  refine wcX5_41_X_40 C (kX0_add hq_1) (by decide) (Nat.le_of_ble_eq_true rfl) dX5_load_7 10 rfl ?_
  refine g_aload_n C dX5_load_10 rfl 0 rfl 11 rfl ?_
  refine wgX5_18_30 C dX5_load_11 14 rfl ?_
  refine g_iload_n C dX5_load_14 rfl 1 rfl 15 rfl ?_
  refine g_dup2 C dX5_load_15 rfl rfl 16 rfl ?_
  obtain ⟨c_2, h⟩ := o_chk h
  refine wlX_33 C c_2 dX5_load_16 17 rfl ?_
  refine g_iconst C (v := 1) dX5_load_17 (by decide) 18 rfl ?_
  refine g_iadd C dX5_load_18 19 rfl ?_
  obtain ⟨c_3, h⟩ := o_chk h
  obtain ⟨σ_4, eσ_4, h⟩ := o_lt h
  refine wtX_33 C eσ_4 c_3 dX5_load_19 20 rfl ?_
  refine g_aload_n C dX5_load_20 rfl 0 rfl 21 rfl ?_
  refine wgX5_18_30 C dX5_load_21 24 rfl ?_
  refine g_iload_n C dX5_load_24 rfl 1 rfl 25 rfl ?_
  obtain ⟨c_5, h⟩ := o_chk h
  refine wlX_33 C c_5 dX5_load_25 26 rfl ?_
  exact g_iret C hr dX5_load_26 h
end WK
/-! X10_row public int row(int, int, int); -/
def fX10_row (x1 : Int32) (x2 : Int32) (x3 : Int32) (σ : ST) : Option (Int32 × ST) :=
  (Option.bind (fX10_isBelow x1 ((6 : Int32)) σ) (fun q_1 => (if q_1.1 = 0 then (some ((-1 : Int32), q_1.2)) else (Option.bind (fX10_isBelow x2 ((8 : Int32)) q_1.2) (fun q_3 => (if q_3.1 = 0 then (some ((-1 : Int32), q_3.2)) else (if ix x1 6 then (if (ldA q_3.2 33 x1) < ((40 : Int32)) then (Option.bind (fX5_load x1 x2 x3 q_3.2) (fun q_7 => (some (q_7.1, q_7.2)))) else (some ((-1 : Int32), q_3.2))) else none)))))))
section WK
variable {p : Program} {l : Launch} {e : Env} {R : Room} {s : State} {m : MethodId} {args : Array Value} {below : List Frame} {meth : Method} {c : Code} {Q : State → Prop}
variable {D : va_G} {ad : Nat → Nat} {cI cJ cB cZ : ClassId} {A : Nat → Prop} {cc : ByteArray} {nL lev : Nat}
variable {σ : ST} {pc : Nat} {lv : List (Nat × Value)} {st : List Value}
set_option maxHeartbeats 4000000 in
set_option maxRecDepth 100000 in
theorem kX10_row {l : Launch} {D : va_G} {ad : Nat → Nat} {cI cJ cB cZ : ClassId}  {x1 : Int32} {x2 : Int32} {x3 : Int32} {σ : ST} {res : Int32 × ST} (h : fX10_row x1 x2 x3 σ = some res) : CMi l D (tyz cI cJ cB cZ) (wX ad cI cJ cB cZ) 3 yX10_row cX10_row 4 (some .int) [.ref (ad 0), .int x1, .int x2, .int x3] σ res := by
  refine cmi_body (own := RX10) (lv := [(0, .ref (ad 0)), (1, .int x1), (2, .int x2), (3, .int x3)]) (by decide) rfl (wX_addr _ _ _ _ _) (Nat.le_of_ble_eq_true rfl) rfl (fun p e s m args below meth c A C hr => ?_)
  unfold fX10_row at h
  refine g_iload_n C dX10_row_0 rfl 1 rfl 1 rfl ?_
  refine g_bipush C (v := 6) dX10_row_1 (by decide) 3 rfl ?_
  obtain ⟨q_1, hq_1, h⟩ := o_bind h
  refine wcX10_111_X C (kX10_isBelow hq_1) (by decide) (Nat.le_of_ble_eq_true rfl) dX10_row_3 6 rfl ?_
  refine g_if_eq C 32 dX10_row_6 (by decide) 9 rfl (fun c_2 => ?_) (fun c_2 => ?_)
  · have h := o_pos h c_2
    refine g_iconst C (v := -1) dX10_row_32 (by decide) 33 rfl ?_
    exact g_iret C hr dX10_row_33 h
  · have h := o_neg h c_2
    refine g_iload_n C dX10_row_9 rfl 2 rfl 10 rfl ?_
    refine g_bipush C (v := 8) dX10_row_10 (by decide) 12 rfl ?_
    obtain ⟨q_3, hq_3, h⟩ := o_bind h
    refine wcX10_111_X C (kX10_isBelow hq_3) (by decide) (Nat.le_of_ble_eq_true rfl) dX10_row_12 15 rfl ?_
    refine g_if_eq C 32 dX10_row_15 (by decide) 18 rfl (fun c_4 => ?_) (fun c_4 => ?_)
    · have h := o_pos h c_4
      refine g_iconst C (v := -1) dX10_row_32 (by decide) 33 rfl ?_
      exact g_iret C hr dX10_row_33 h
    · have h := o_neg h c_4
      refine g_aload_n C dX10_row_18 rfl 0 rfl 19 rfl ?_
      refine wgX10_44_0 C dX10_row_19 22 rfl ?_
      refine wgX10_122_30 C dX10_row_22 25 rfl ?_
      refine g_iload_n C dX10_row_25 rfl 1 rfl 26 rfl ?_
      obtain ⟨c_5, h⟩ := o_chk h
      refine wlX_33 C c_5 dX10_row_26 27 rfl ?_
      refine g_bipush C (v := 40) dX10_row_27 (by decide) 29 rfl ?_
      refine g_icmp_lt C 34 dX10_row_29 (by decide) 32 rfl (fun c_6 => ?_) (fun c_6 => ?_)
      · have h := o_pos h c_6
        refine g_aload_n C dX10_row_34 rfl 0 rfl 35 rfl ?_
        refine wgX10_44_0 C dX10_row_35 38 rfl ?_
        refine g_iload_n C dX10_row_38 rfl 1 rfl 39 rfl ?_
        refine g_iload_n C dX10_row_39 rfl 2 rfl 40 rfl ?_
        refine g_iload_n C dX10_row_40 rfl 3 rfl 41 rfl ?_
        obtain ⟨q_7, hq_7, h⟩ := o_bind h
        refine wcX10_125_X_30 C (kX5_load hq_7) (by decide) (Nat.le_of_ble_eq_true rfl) dX10_row_41 44 rfl ?_
        exact g_iret C hr dX10_row_44 h
      · have h := o_neg h c_6
        refine g_iconst C (v := -1) dX10_row_32 (by decide) 33 rfl ?_
        exact g_iret C hr dX10_row_33 h
end WK
/-! X9_isUnderWay boolean isUnderWay(int); -/
def fX9_isUnderWay (x1 : Int32) (σ : ST) : Option (Int32 × ST) :=
  (if (((gI σ 21) >>> (x1 &&& 31)) &&& ((1 : Int32))) = 0 then (some ((0 : Int32), σ)) else (some ((1 : Int32), σ)))
section WK
variable {p : Program} {l : Launch} {e : Env} {R : Room} {s : State} {m : MethodId} {args : Array Value} {below : List Frame} {meth : Method} {c : Code} {Q : State → Prop}
variable {D : va_G} {ad : Nat → Nat} {cI cJ cB cZ : ClassId} {A : Nat → Prop} {cc : ByteArray} {nL lev : Nat}
variable {σ : ST} {pc : Nat} {lv : List (Nat × Value)} {st : List Value}
set_option maxHeartbeats 4000000 in
set_option maxRecDepth 100000 in
theorem kX9_isUnderWay {l : Launch} {D : va_G} {ad : Nat → Nat} {cI cJ cB cZ : ClassId}  {x1 : Int32} {σ : ST} {res : Int32 × ST} (h : fX9_isUnderWay x1 σ = some res) : CMi l D (tyz cI cJ cB cZ) (wX ad cI cJ cB cZ) 0 yX9_isUnderWay cX9_isUnderWay 2 (some .boolean) [.ref (ad 52), .int x1] σ res := by
  refine cmi_body (own := RX9) (lv := [(0, .ref (ad 52)), (1, .int x1)]) (by decide) rfl (wX_addr _ _ _ _ _) (Nat.le_of_ble_eq_true rfl) rfl (fun p e s m args below meth c A C hr => ?_)
  unfold fX9_isUnderWay at h
  refine g_aload_n C dX9_isUnderWay_0 rfl 0 rfl 1 rfl ?_
  refine wgX9_21_52 C dX9_isUnderWay_1 4 rfl ?_
  refine g_iload_n C dX9_isUnderWay_4 rfl 1 rfl 5 rfl ?_
  refine g_ishr C dX9_isUnderWay_5 6 rfl ?_
  refine g_iconst C (v := 1) dX9_isUnderWay_6 (by decide) 7 rfl ?_
  refine g_iand C dX9_isUnderWay_7 8 rfl ?_
  refine g_if_eq C 15 dX9_isUnderWay_8 (by decide) 11 rfl (fun c_1 => ?_) (fun c_1 => ?_)
  · have h := o_pos h c_1
    refine g_iconst C (v := 0) dX9_isUnderWay_15 (by decide) 16 rfl ?_
    exact g_zret C hr (by decide) dX9_isUnderWay_16 h
  · have h := o_neg h c_1
    refine g_iconst C (v := 1) dX9_isUnderWay_11 (by decide) 12 rfl ?_
    refine g_goto C 16 dX9_isUnderWay_12 (by decide) ?_
    exact g_zret C hr (by decide) dX9_isUnderWay_16 h
end WK
/-! X9_undo void undo(int); -/
def fX9_undo_L4 (k43 : Int32 → ST → Option (ST)) : Nat → Int32 → Int32 → Int32 → ST → Option (ST)
  | 0, _, _, _, _ => none
  | n + 1, x1, x2, x3, σ => (if (gI σ 10) ≤ x3 then (k43 x2 σ) else (if ix x3 7 then (if (((ldA σ 26 x3) >>> (x1 &&& 31)) &&& ((1 : Int32))) = 0 then (lt (x3 + 1) (fun x3_6 => (fX9_undo_L4 k43 n x1 x2 x3_6 σ))) else (lt (x2 ||| (((1 : Int32)) <<< (x3 &&& 31))) (fun x2_7 => (lt (x3 + 1) (fun x3_8 => (fX9_undo_L4 k43 n x1 x2_7 x3_8 σ)))))) else none))
def fX9_undo_L69  : Nat → Int32 → ST → Option (ST)
  | 0, _, _ => none
  | n + 1, x3, σ => (if ((3 : Int32)) ≤ x3 then (some σ) else (if ix x3 3 then (if (ldA σ 53 x3) = ((-1 : Int32)) then (lt (x3 + 1) (fun x3_17 => (fX9_undo_L69 n x3_17 σ))) else (if ix x3 3 then (Option.bind (fX9_isUnderWay (ldA σ 53 x3) σ) (fun q_19 => (if q_19.1 = 0 then (if ix x3 3 then (lt (stA q_19.2 53 x3 ((-1 : Int32))) (fun σ_23 => (lt (x3 + 1) (fun x3_24 => (fX9_undo_L69 n x3_24 σ_23))))) else none) else (lt (x3 + 1) (fun x3_21 => (fX9_undo_L69 n x3_21 q_19.2)))))) else none)) else none))
def fX9_undo (n : Nat) (x1 : Int32) (σ : ST) : Option (ST) :=
  (lt ((0 : Int32)) (fun x2_1 => (lt ((0 : Int32)) (fun x3_2 => (fX9_undo_L4 (fun (x2_9 : Int32) (σ_10 : ST) => (lt (sI σ_10 20 ((gI σ_10 20) &&& (x2_9 ^^^ ((-1 : Int32))))) (fun σ_11 => (lt (sI σ_11 21 ((gI σ_11 21) &&& (x2_9 ^^^ ((-1 : Int32))))) (fun σ_12 => (lt ((0 : Int32)) (fun x3_13 => (fX9_undo_L69 n x3_13 σ_12)))))))) n x1 x2_1 x3_2 σ)))))
section WK
variable {p : Program} {l : Launch} {e : Env} {R : Room} {s : State} {m : MethodId} {args : Array Value} {below : List Frame} {meth : Method} {c : Code} {Q : State → Prop}
variable {D : va_G} {ad : Nat → Nat} {cI cJ cB cZ : ClassId} {A : Nat → Prop} {cc : ByteArray} {nL lev : Nat}
variable {σ : ST} {pc : Nat} {lv : List (Nat × Value)} {st : List Value}
set_option maxHeartbeats 4000000 in
set_option maxRecDepth 100000 in
theorem kX9_undo_L4 (C : Ctx p l e (rmL 1) s m args below meth c D (tyz cI cJ cB cZ) (wX ad cI cJ cB cZ) A cX9_undo 4 1 RX9) (hr : meth.sig.returnType = none) {res : ST} {k43 : Int32 → ST → Option (ST)} (hk43 : ∀ (x2 : Int32) (σ : ST), k43 x2 σ = some res → G p l e (rmL 1) s m args below meth c (MQ below (Qv D (tyz cI cJ cB cZ) (wX ad cI cJ cB cZ) A res) args s 0 0 A) D (wX ad cI cJ cB cZ) A 4 σ 43 [(0, .ref (ad 52)), (2, .int x2)] []) : ∀ (n : Nat) (x1 : Int32) (x2 : Int32) (x3 : Int32) (σ : ST), fX9_undo_L4 k43 n x1 x2 x3 σ = some res → G p l e (rmL 1) s m args below meth c (MQ below (Qv D (tyz cI cJ cB cZ) (wX ad cI cJ cB cZ) A res) args s 0 0 A) D (wX ad cI cJ cB cZ) A 4 σ 4 [(0, .ref (ad 52)), (1, .int x1), (2, .int x2), (3, .int x3)] [] := by
  intro n
  induction n with
  | zero => intro x1 x2 x3 σ h; have h : none = some res := h; cases h
  | succ n ih =>
    intro x1 x2 x3 σ h
    rw [fX9_undo_L4] at h
    refine g_iload_n C dX9_undo_4 rfl 3 rfl 5 rfl ?_
    refine g_aload_n C dX9_undo_5 rfl 0 rfl 6 rfl ?_
    refine wgX9_40_52 C dX9_undo_6 9 rfl ?_
    refine wgX9_56_19 C dX9_undo_9 12 rfl ?_
    refine g_icmp_ge C 43 dX9_undo_12 (by decide) 15 rfl (fun c_3 => ?_) (fun c_3 => ?_)
    · have h := o_pos h c_3
      exact g_sub C [0, 2] rfl (hk43 x2 σ h)
    · have h := o_neg h c_3
      refine g_aload_n C dX9_undo_15 rfl 0 rfl 16 rfl ?_
      refine wgX9_40_52 C dX9_undo_16 19 rfl ?_
      refine wgX9_61_19 C dX9_undo_19 22 rfl ?_
      refine g_iload_n C dX9_undo_22 rfl 3 rfl 23 rfl ?_
      obtain ⟨c_4, h⟩ := o_chk h
      refine wlX_26 C c_4 dX9_undo_23 24 rfl ?_
      refine g_iload_n C dX9_undo_24 rfl 1 rfl 25 rfl ?_
      refine g_ishr C dX9_undo_25 26 rfl ?_
      refine g_iconst C (v := 1) dX9_undo_26 (by decide) 27 rfl ?_
      refine g_iand C dX9_undo_27 28 rfl ?_
      refine g_if_eq C 37 dX9_undo_28 (by decide) 31 rfl (fun c_5 => ?_) (fun c_5 => ?_)
      · have h := o_pos h c_5
        obtain ⟨x3_6, ex3_6, h⟩ := o_lt h
        refine g_iinc C (lv' := [(3, .int x3_6), (0, .ref (ad 52)), (1, .int x1), (2, .int x2)]) ex3_6 dX9_undo_37 3 rfl (by decide) (by decide) rfl 40 rfl ?_
        refine g_goto C 4 dX9_undo_40 (by decide) ?_
        exact g_sub C [1, 2, 3, 0] rfl (ih x1 x2 x3_6 σ h)
      · have h := o_neg h c_5
        refine g_iload_n C dX9_undo_31 rfl 2 rfl 32 rfl ?_
        refine g_iconst C (v := 1) dX9_undo_32 (by decide) 33 rfl ?_
        refine g_iload_n C dX9_undo_33 rfl 3 rfl 34 rfl ?_
        refine g_ishl C dX9_undo_34 35 rfl ?_
        refine g_ior C dX9_undo_35 36 rfl ?_
        obtain ⟨x2_7, ex2_7, h⟩ := o_lt h
        refine g_istore_n C (lv' := [(2, .int x2_7), (0, .ref (ad 52)), (1, .int x1), (3, .int x3)]) ex2_7 dX9_undo_36 rfl (by decide) rfl 37 rfl ?_
        obtain ⟨x3_8, ex3_8, h⟩ := o_lt h
        refine g_iinc C (lv' := [(3, .int x3_8), (2, .int x2_7), (0, .ref (ad 52)), (1, .int x1)]) ex3_8 dX9_undo_37 3 rfl (by decide) (by decide) rfl 40 rfl ?_
        refine g_goto C 4 dX9_undo_40 (by decide) ?_
        exact g_sub C [2, 3, 1, 0] rfl (ih x1 x2_7 x3_8 σ h)
set_option maxHeartbeats 4000000 in
set_option maxRecDepth 100000 in
theorem kX9_undo_L69 (C : Ctx p l e (rmL 1) s m args below meth c D (tyz cI cJ cB cZ) (wX ad cI cJ cB cZ) A cX9_undo 4 1 RX9) (hr : meth.sig.returnType = none) {res : ST}   : ∀ (n : Nat) (x3 : Int32) (σ : ST), fX9_undo_L69 n x3 σ = some res → G p l e (rmL 1) s m args below meth c (MQ below (Qv D (tyz cI cJ cB cZ) (wX ad cI cJ cB cZ) A res) args s 0 0 A) D (wX ad cI cJ cB cZ) A 4 σ 69 [(0, .ref (ad 52)), (3, .int x3)] [] := by
  intro n
  induction n with
  | zero => intro x3 σ h; have h : none = some res := h; cases h
  | succ n ih =>
    intro x3 σ h
    rw [fX9_undo_L69] at h
    refine g_iload_n C dX9_undo_69 rfl 1 rfl 70 rfl ?_
    refine g_iconst C (v := 3) dX9_undo_70 (by decide) 71 rfl ?_
    refine g_icmp_ge C 110 dX9_undo_71 (by decide) 74 rfl (fun c_14 => ?_) (fun c_14 => ?_)
    · have h := o_pos h c_14
      exact g_vret C hr dX9_undo_110 h
    · have h := o_neg h c_14
      refine g_aload_n C dX9_undo_74 rfl 0 rfl 75 rfl ?_
      refine wgX9_24_52 C dX9_undo_75 78 rfl ?_
      refine g_iload_n C dX9_undo_78 rfl 1 rfl 79 rfl ?_
      obtain ⟨c_15, h⟩ := o_chk h
      refine wlX_53 C c_15 dX9_undo_79 80 rfl ?_
      refine g_iconst C (v := -1) dX9_undo_80 (by decide) 81 rfl ?_
      refine g_icmp_eq C 104 dX9_undo_81 (by decide) 84 rfl (fun c_16 => ?_) (fun c_16 => ?_)
      · have h := o_pos h c_16
        obtain ⟨x3_17, ex3_17, h⟩ := o_lt h
        refine g_iinc C (lv' := [(3, .int x3_17), (0, .ref (ad 52))]) ex3_17 dX9_undo_104 1 rfl (by decide) (by decide) rfl 107 rfl ?_
        refine g_goto C 69 dX9_undo_107 (by decide) ?_
        exact g_sub C [1, 0] rfl (ih x3_17 σ h)
      · have h := o_neg h c_16
        refine g_aload_n C dX9_undo_84 rfl 0 rfl 85 rfl ?_
        refine g_aload_n C dX9_undo_85 rfl 0 rfl 86 rfl ?_
        refine wgX9_24_52 C dX9_undo_86 89 rfl ?_
        refine g_iload_n C dX9_undo_89 rfl 1 rfl 90 rfl ?_
        obtain ⟨c_18, h⟩ := o_chk h
        refine wlX_53 C c_18 dX9_undo_90 91 rfl ?_
        obtain ⟨q_19, hq_19, h⟩ := o_bind h
        refine wcX9_64_X_52 C (kX9_isUnderWay hq_19) (by decide) (Nat.le_of_ble_eq_true rfl) dX9_undo_91 94 rfl ?_
        refine g_if_ne C 104 dX9_undo_94 (by decide) 97 rfl (fun c_20 => ?_) (fun c_20 => ?_)
        · have h := o_neg h c_20
          obtain ⟨x3_21, ex3_21, h⟩ := o_lt h
          refine g_iinc C (lv' := [(3, .int x3_21), (0, .ref (ad 52))]) ex3_21 dX9_undo_104 1 rfl (by decide) (by decide) rfl 107 rfl ?_
          refine g_goto C 69 dX9_undo_107 (by decide) ?_
          exact g_sub C [1, 0] rfl (ih x3_21 q_19.2 h)
        · have h := o_pos h c_20
          refine g_aload_n C dX9_undo_97 rfl 0 rfl 98 rfl ?_
          refine wgX9_24_52 C dX9_undo_98 101 rfl ?_
          refine g_iload_n C dX9_undo_101 rfl 1 rfl 102 rfl ?_
          refine g_iconst C (v := -1) dX9_undo_102 (by decide) 103 rfl ?_
          obtain ⟨c_22, h⟩ := o_chk h
          obtain ⟨σ_23, eσ_23, h⟩ := o_lt h
          refine wtX_53 C eσ_23 c_22 dX9_undo_103 104 rfl ?_
          obtain ⟨x3_24, ex3_24, h⟩ := o_lt h
          refine g_iinc C (lv' := [(3, .int x3_24), (0, .ref (ad 52))]) ex3_24 dX9_undo_104 1 rfl (by decide) (by decide) rfl 107 rfl ?_
          refine g_goto C 69 dX9_undo_107 (by decide) ?_
          exact g_sub C [1, 0] rfl (ih x3_24 σ_23 h)
set_option maxHeartbeats 4000000 in
set_option maxRecDepth 100000 in
theorem kX9_undo {l : Launch} {D : va_G} {ad : Nat → Nat} {cI cJ cB cZ : ClassId}  {n : Nat} {x1 : Int32} {σ : ST} {res : ST} (h : fX9_undo n x1 σ = some res) : CMv l D (tyz cI cJ cB cZ) (wX ad cI cJ cB cZ) 1 yX9_undo cX9_undo 4 none [.ref (ad 52), .int x1] σ res := by
  refine cmv_body (own := RX9) (lv := [(0, .ref (ad 52)), (1, .int x1)]) (by decide) rfl (wX_addr _ _ _ _ _) (Nat.le_of_ble_eq_true rfl) rfl (fun p e s m args below meth c A C hr => ?_)
  unfold fX9_undo at h
  refine g_iconst C (v := 0) dX9_undo_0 (by decide) 1 rfl ?_
  obtain ⟨x2_1, ex2_1, h⟩ := o_lt h
  refine g_istore_n C (lv' := [(2, .int x2_1), (0, .ref (ad 52)), (1, .int x1)]) ex2_1 dX9_undo_1 rfl (by decide) rfl 2 rfl ?_
  refine g_iconst C (v := 0) dX9_undo_2 (by decide) 3 rfl ?_
  obtain ⟨x3_2, ex3_2, h⟩ := o_lt h
  refine g_istore_n C (lv' := [(3, .int x3_2), (2, .int x2_1), (0, .ref (ad 52)), (1, .int x1)]) ex3_2 dX9_undo_3 rfl (by decide) rfl 4 rfl ?_
  exact g_sub C [2, 3, 1, 0] rfl (kX9_undo_L4 C hr (fun x2_9 σ_10 h => by
      refine g_aload_n C dX9_undo_43 rfl 0 rfl 44 rfl ?_
      refine g_dup C dX9_undo_44 rfl 45 rfl ?_
      refine wgX9_18_52 C dX9_undo_45 48 rfl ?_
      refine g_iload_n C dX9_undo_48 rfl 1 rfl 49 rfl ?_
      refine g_iconst C (v := -1) dX9_undo_49 (by decide) 50 rfl ?_
      refine g_ixor C dX9_undo_50 51 rfl ?_
      refine g_iand C dX9_undo_51 52 rfl ?_
      obtain ⟨σ_11, eσ_11, h⟩ := o_lt h
      refine wpX9_18_52 C eσ_11 dX9_undo_52 55 rfl ?_
      refine g_aload_n C dX9_undo_55 rfl 0 rfl 56 rfl ?_
      refine g_dup C dX9_undo_56 rfl 57 rfl ?_
      refine wgX9_21_52 C dX9_undo_57 60 rfl ?_
      refine g_iload_n C dX9_undo_60 rfl 1 rfl 61 rfl ?_
      refine g_iconst C (v := -1) dX9_undo_61 (by decide) 62 rfl ?_
      refine g_ixor C dX9_undo_62 63 rfl ?_
      refine g_iand C dX9_undo_63 64 rfl ?_
      obtain ⟨σ_12, eσ_12, h⟩ := o_lt h
      refine wpX9_21_52 C eσ_12 dX9_undo_64 67 rfl ?_
      refine g_iconst C (v := 0) dX9_undo_67 (by decide) 68 rfl ?_
      obtain ⟨x3_13, ex3_13, h⟩ := o_lt h
      refine g_istore_n C (lv' := [(3, .int x3_13), (0, .ref (ad 52)), (2, .int x2_9)]) ex3_13 dX9_undo_68 rfl (by decide) rfl 69 rfl ?_
      exact g_sub C [1, 0] rfl (kX9_undo_L69 C hr  n x3_13 σ_12 h)) n x1 x2_1 x3_2 σ h)
end WK
/-! X0_moveFrom void moveFrom(DawnHouse$Figures, int); -/
def fX0_moveFrom_L14  : Nat → Int32 → Int32 → ST → Option (ST)
  | 0, _, _, _ => none
  | n + 1, x2, x3, σ => (if ((x2 + ((1 : Int32))) * ((8 : Int32))) ≤ x3 then (some σ) else (if ix x3 48 then (if ix x3 48 then (lt (stB σ 37 x3 (ldB σ 41 x3)) (fun σ_7 => (if ix x3 48 then (if ix x3 48 then (lt (stB σ_7 38 x3 (ldB σ_7 42 x3)) (fun σ_10 => (if ix x3 48 then (if ix x3 48 then (lt (stB σ_10 39 x3 (ldB σ_10 43 x3)) (fun σ_13 => (if ix x3 48 then (lt (stB σ_13 41 x3 ((0 : Int64))) (fun σ_15 => (if ix x3 48 then (lt (stB σ_15 42 x3 ((0 : Int64))) (fun σ_17 => (if ix x3 48 then (lt (stB σ_17 43 x3 ((0 : Int64))) (fun σ_19 => (lt (x3 + 1) (fun x3_20 => (fX0_moveFrom_L14 n x2 x3_20 σ_19))))) else none))) else none))) else none))) else none) else none))) else none) else none))) else none) else none))
def fX0_moveFrom (n : Nat) (x2 : Int32) (σ : ST) : Option (ST) :=
  (Option.bind (fX10_isBelow x2 ((6 : Int32)) σ) (fun q_1 => (if q_1.1 = 0 then (some q_1.2) else (lt (x2 * ((8 : Int32))) (fun x3_3 => (fX0_moveFrom_L14 n x2 x3_3 q_1.2))))))
section WK
variable {p : Program} {l : Launch} {e : Env} {R : Room} {s : State} {m : MethodId} {args : Array Value} {below : List Frame} {meth : Method} {c : Code} {Q : State → Prop}
variable {D : va_G} {ad : Nat → Nat} {cI cJ cB cZ : ClassId} {A : Nat → Prop} {cc : ByteArray} {nL lev : Nat}
variable {σ : ST} {pc : Nat} {lv : List (Nat × Value)} {st : List Value}
set_option maxHeartbeats 4000000 in
set_option maxRecDepth 100000 in
theorem kX0_moveFrom_L14 (C : Ctx p l e (rmL 1) s m args below meth c D (tyz cI cJ cB cZ) (wX ad cI cJ cB cZ) A cX0_moveFrom 4 1 RX0) (hr : meth.sig.returnType = none) {res : ST}   : ∀ (n : Nat) (x2 : Int32) (x3 : Int32) (σ : ST), fX0_moveFrom_L14 n x2 x3 σ = some res → G p l e (rmL 1) s m args below meth c (MQ below (Qv D (tyz cI cJ cB cZ) (wX ad cI cJ cB cZ) A res) args s 0 0 A) D (wX ad cI cJ cB cZ) A 4 σ 14 [(0, .ref (ad 36)), (1, .ref (ad 40)), (2, .int x2), (3, .int x3)] [] := by
  intro n
  induction n with
  | zero => intro x2 x3 σ h; have h : none = some res := h; cases h
  | succ n ih =>
    intro x2 x3 σ h
    rw [fX0_moveFrom_L14] at h
    refine g_iload_n C dX0_moveFrom_14 rfl 3 rfl 15 rfl ?_
    refine g_iload_n C dX0_moveFrom_15 rfl 2 rfl 16 rfl ?_
    refine g_iconst C (v := 1) dX0_moveFrom_16 (by decide) 17 rfl ?_
    refine g_iadd C dX0_moveFrom_17 18 rfl ?_
    refine g_bipush C (v := 8) dX0_moveFrom_18 (by decide) 20 rfl ?_
    refine g_imul C dX0_moveFrom_20 21 rfl ?_
    refine g_icmp_ge C 87 dX0_moveFrom_21 (by decide) 24 rfl (fun c_4 => ?_) (fun c_4 => ?_)
    · have h := o_pos h c_4
      exact g_vret C hr dX0_moveFrom_87 h
    · have h := o_neg h c_4
      refine g_aload_n C dX0_moveFrom_24 rfl 0 rfl 25 rfl ?_
      refine wgX0_9_36 C dX0_moveFrom_25 28 rfl ?_
      refine g_iload_n C dX0_moveFrom_28 rfl 3 rfl 29 rfl ?_
      refine g_aload_n C dX0_moveFrom_29 rfl 1 rfl 30 rfl ?_
      refine wgX0_9_40 C dX0_moveFrom_30 33 rfl ?_
      refine g_iload_n C dX0_moveFrom_33 rfl 3 rfl 34 rfl ?_
      obtain ⟨c_5, h⟩ := o_chk h
      refine wlX_41 C c_5 dX0_moveFrom_34 35 rfl ?_
      obtain ⟨c_6, h⟩ := o_chk h
      obtain ⟨σ_7, eσ_7, h⟩ := o_lt h
      refine wtX_37 C eσ_7 c_6 dX0_moveFrom_35 36 rfl ?_
      refine g_aload_n C dX0_moveFrom_36 rfl 0 rfl 37 rfl ?_
      refine wgX0_15_36 C dX0_moveFrom_37 40 rfl ?_
      refine g_iload_n C dX0_moveFrom_40 rfl 3 rfl 41 rfl ?_
      refine g_aload_n C dX0_moveFrom_41 rfl 1 rfl 42 rfl ?_
      refine wgX0_15_40 C dX0_moveFrom_42 45 rfl ?_
      refine g_iload_n C dX0_moveFrom_45 rfl 3 rfl 46 rfl ?_
      obtain ⟨c_8, h⟩ := o_chk h
      refine wlX_42 C c_8 dX0_moveFrom_46 47 rfl ?_
      obtain ⟨c_9, h⟩ := o_chk h
      obtain ⟨σ_10, eσ_10, h⟩ := o_lt h
      refine wtX_38 C eσ_10 c_9 dX0_moveFrom_47 48 rfl ?_
      refine g_aload_n C dX0_moveFrom_48 rfl 0 rfl 49 rfl ?_
      refine wgX0_18_36 C dX0_moveFrom_49 52 rfl ?_
      refine g_iload_n C dX0_moveFrom_52 rfl 3 rfl 53 rfl ?_
      refine g_aload_n C dX0_moveFrom_53 rfl 1 rfl 54 rfl ?_
      refine wgX0_18_40 C dX0_moveFrom_54 57 rfl ?_
      refine g_iload_n C dX0_moveFrom_57 rfl 3 rfl 58 rfl ?_
      obtain ⟨c_11, h⟩ := o_chk h
      refine wlX_43 C c_11 dX0_moveFrom_58 59 rfl ?_
      obtain ⟨c_12, h⟩ := o_chk h
      obtain ⟨σ_13, eσ_13, h⟩ := o_lt h
      refine wtX_39 C eσ_13 c_12 dX0_moveFrom_59 60 rfl ?_
      refine g_aload_n C dX0_moveFrom_60 rfl 1 rfl 61 rfl ?_
      refine wgX0_9_40 C dX0_moveFrom_61 64 rfl ?_
      refine g_iload_n C dX0_moveFrom_64 rfl 3 rfl 65 rfl ?_
      refine g_lconst C (v := 0) dX0_moveFrom_65 (by decide) 66 rfl ?_
      obtain ⟨c_14, h⟩ := o_chk h
      obtain ⟨σ_15, eσ_15, h⟩ := o_lt h
      refine wtX_41 C eσ_15 c_14 dX0_moveFrom_66 67 rfl ?_
      refine g_aload_n C dX0_moveFrom_67 rfl 1 rfl 68 rfl ?_
      refine wgX0_15_40 C dX0_moveFrom_68 71 rfl ?_
      refine g_iload_n C dX0_moveFrom_71 rfl 3 rfl 72 rfl ?_
      refine g_lconst C (v := 0) dX0_moveFrom_72 (by decide) 73 rfl ?_
      obtain ⟨c_16, h⟩ := o_chk h
      obtain ⟨σ_17, eσ_17, h⟩ := o_lt h
      refine wtX_42 C eσ_17 c_16 dX0_moveFrom_73 74 rfl ?_
      refine g_aload_n C dX0_moveFrom_74 rfl 1 rfl 75 rfl ?_
      refine wgX0_18_40 C dX0_moveFrom_75 78 rfl ?_
      refine g_iload_n C dX0_moveFrom_78 rfl 3 rfl 79 rfl ?_
      refine g_lconst C (v := 0) dX0_moveFrom_79 (by decide) 80 rfl ?_
      obtain ⟨c_18, h⟩ := o_chk h
      obtain ⟨σ_19, eσ_19, h⟩ := o_lt h
      refine wtX_43 C eσ_19 c_18 dX0_moveFrom_80 81 rfl ?_
      obtain ⟨x3_20, ex3_20, h⟩ := o_lt h
      refine g_iinc C (lv' := [(3, .int x3_20), (0, .ref (ad 36)), (1, .ref (ad 40)), (2, .int x2)]) ex3_20 dX0_moveFrom_81 3 rfl (by decide) (by decide) rfl 84 rfl ?_
      refine g_goto C 14 dX0_moveFrom_84 (by decide) ?_
      exact g_sub C [1, 2, 3, 0] rfl (ih x2 x3_20 σ_19 h)
set_option maxHeartbeats 4000000 in
set_option maxRecDepth 100000 in
theorem kX0_moveFrom {l : Launch} {D : va_G} {ad : Nat → Nat} {cI cJ cB cZ : ClassId}  {n : Nat} {x2 : Int32} {σ : ST} {res : ST} (h : fX0_moveFrom n x2 σ = some res) : CMv l D (tyz cI cJ cB cZ) (wX ad cI cJ cB cZ) 1 yX0_moveFrom cX0_moveFrom 4 none [.ref (ad 36), .ref (ad 40), .int x2] σ res := by
  refine cmv_body (own := RX0) (lv := [(0, .ref (ad 36)), (1, .ref (ad 40)), (2, .int x2)]) (by decide) rfl (wX_addr _ _ _ _ _) (Nat.le_of_ble_eq_true rfl) rfl (fun p e s m args below meth c A C hr => ?_)
  unfold fX0_moveFrom at h
  refine g_iload_n C dX0_moveFrom_0 rfl 2 rfl 1 rfl ?_
  refine g_bipush C (v := 6) dX0_moveFrom_1 (by decide) 3 rfl ?_
  obtain ⟨q_1, hq_1, h⟩ := o_bind h
  refine wcX0_21_X C (kX10_isBelow hq_1) (by decide) (Nat.le_of_ble_eq_true rfl) dX0_moveFrom_3 6 rfl ?_
  refine g_if_eq C 87 dX0_moveFrom_6 (by decide) 9 rfl (fun c_2 => ?_) (fun c_2 => ?_)
  · have h := o_pos h c_2
    exact g_vret C hr dX0_moveFrom_87 h
  · have h := o_neg h c_2
    refine g_iload_n C dX0_moveFrom_9 rfl 2 rfl 10 rfl ?_
    refine g_bipush C (v := 8) dX0_moveFrom_10 (by decide) 12 rfl ?_
    refine g_imul C dX0_moveFrom_12 13 rfl ?_
    obtain ⟨x3_3, ex3_3, h⟩ := o_lt h
    refine g_istore_n C (lv' := [(3, .int x3_3), (0, .ref (ad 36)), (1, .ref (ad 40)), (2, .int x2)]) ex3_3 dX0_moveFrom_13 rfl (by decide) rfl 14 rfl ?_
    exact g_sub C [1, 2, 3, 0] rfl (kX0_moveFrom_L14 C hr  n x2 x3_3 q_1.2 h)
end WK
/-! X5_bringIn int bringIn(int); -/
def fX5_bringIn (n : Nat) (x1 : Int32) (σ : ST) : Option (Int32 × ST) :=
  (Option.bind (fX0_moveFrom n x1 σ) (fun q_1 => (if ix x1 6 then (if ix x1 6 then (lt (stA q_1 32 x1 (ldA q_1 33 x1)) (fun σ_4 => (if ix x1 6 then (lt (stA σ_4 33 x1 ((0 : Int32))) (fun σ_6 => (lt (sI σ_6 13 ((gI σ_6 13) ||| (((1 : Int32)) <<< (x1 &&& 31)))) (fun σ_7 => (if ix x1 6 then (if ix x1 6 then (lt (stA σ_7 31 x1 ((ldA σ_7 31 x1) + ((1 : Int32)))) (fun σ_10 => (if ix x1 6 then (some (ldA σ_10 31 x1, σ_10)) else none))) else none) else none))))) else none))) else none) else none)))
section WK
variable {p : Program} {l : Launch} {e : Env} {R : Room} {s : State} {m : MethodId} {args : Array Value} {below : List Frame} {meth : Method} {c : Code} {Q : State → Prop}
variable {D : va_G} {ad : Nat → Nat} {cI cJ cB cZ : ClassId} {A : Nat → Prop} {cc : ByteArray} {nL lev : Nat}
variable {σ : ST} {pc : Nat} {lv : List (Nat × Value)} {st : List Value}
set_option maxHeartbeats 4000000 in
set_option maxRecDepth 100000 in
theorem kX5_bringIn {l : Launch} {D : va_G} {ad : Nat → Nat} {cI cJ cB cZ : ClassId}  {n : Nat} {x1 : Int32} {σ : ST} {res : Int32 × ST} (h : fX5_bringIn n x1 σ = some res) : CMi l D (tyz cI cJ cB cZ) (wX ad cI cJ cB cZ) 2 yX5_bringIn cX5_bringIn 2 (some .int) [.ref (ad 30), .int x1] σ res := by
  refine cmi_body (own := RX5) (lv := [(0, .ref (ad 30)), (1, .int x1)]) (by decide) rfl (wX_addr _ _ _ _ _) (Nat.le_of_ble_eq_true rfl) rfl (fun p e s m args below meth c A C hr => ?_)
  unfold fX5_bringIn at h
  refine g_aload_n C dX5_bringIn_0 rfl 0 rfl 1 rfl ?_
  refine wgX5_34_30 C dX5_bringIn_1 4 rfl ?_
  refine g_aload_n C dX5_bringIn_4 rfl 0 rfl 5 rfl ?_
  refine wgX5_38_30 C dX5_bringIn_5 8 rfl ?_
  refine g_iload_n C dX5_bringIn_8 rfl 1 rfl 9 rfl ?_
  obtain ⟨q_1, hq_1, h⟩ := o_bind h
  refine wcX5_45_X_36_40 C (kX0_moveFrom hq_1) (by decide) (Nat.le_of_ble_eq_true rfl) dX5_bringIn_9 12 rfl ?_
  refine g_aload_n C dX5_bringIn_12 rfl 0 rfl 13 rfl ?_
  refine wgX5_15_30 C dX5_bringIn_13 16 rfl ?_
  refine g_iload_n C dX5_bringIn_16 rfl 1 rfl 17 rfl ?_
  refine g_aload_n C dX5_bringIn_17 rfl 0 rfl 18 rfl ?_
  refine wgX5_18_30 C dX5_bringIn_18 21 rfl ?_
  refine g_iload_n C dX5_bringIn_21 rfl 1 rfl 22 rfl ?_
  obtain ⟨c_2, h⟩ := o_chk h
  refine wlX_33 C c_2 dX5_bringIn_22 23 rfl ?_
  obtain ⟨c_3, h⟩ := o_chk h
  obtain ⟨σ_4, eσ_4, h⟩ := o_lt h
  refine wtX_32 C eσ_4 c_3 dX5_bringIn_23 24 rfl ?_
  refine g_aload_n C dX5_bringIn_24 rfl 0 rfl 25 rfl ?_
  refine wgX5_18_30 C dX5_bringIn_25 28 rfl ?_
  refine g_iload_n C dX5_bringIn_28 rfl 1 rfl 29 rfl ?_
  refine g_iconst C (v := 0) dX5_bringIn_29 (by decide) 30 rfl ?_
  obtain ⟨c_5, h⟩ := o_chk h
  obtain ⟨σ_6, eσ_6, h⟩ := o_lt h
  refine wtX_33 C eσ_6 c_5 dX5_bringIn_30 31 rfl ?_
  refine g_aload_n C dX5_bringIn_31 rfl 0 rfl 32 rfl ?_
  refine g_dup C dX5_bringIn_32 rfl 33 rfl ?_
  refine wgX5_27_30 C dX5_bringIn_33 36 rfl ?_
  refine g_iconst C (v := 1) dX5_bringIn_36 (by decide) 37 rfl ?_
  refine g_iload_n C dX5_bringIn_37 rfl 1 rfl 38 rfl ?_
  refine g_ishl C dX5_bringIn_38 39 rfl ?_
  refine g_ior C dX5_bringIn_39 40 rfl ?_
  obtain ⟨σ_7, eσ_7, h⟩ := o_lt h
  refine wpX5_27_30 C eσ_7 dX5_bringIn_40 43 rfl ?_
  refine g_aload_n C dX5_bringIn_43 rfl 0 rfl 44 rfl ?_
  refine wgX5_9_30 C dX5_bringIn_44 47 rfl ?_
  refine g_iload_n C dX5_bringIn_47 rfl 1 rfl 48 rfl ?_
  refine g_dup2 C dX5_bringIn_48 rfl rfl 49 rfl ?_
  obtain ⟨c_8, h⟩ := o_chk h
  refine wlX_31 C c_8 dX5_bringIn_49 50 rfl ?_
  refine g_iconst C (v := 1) dX5_bringIn_50 (by decide) 51 rfl ?_
  refine g_iadd C dX5_bringIn_51 52 rfl ?_
  obtain ⟨c_9, h⟩ := o_chk h
  obtain ⟨σ_10, eσ_10, h⟩ := o_lt h
  refine wtX_31 C eσ_10 c_9 dX5_bringIn_52 53 rfl ?_
  refine g_aload_n C dX5_bringIn_53 rfl 0 rfl 54 rfl ?_
  refine wgX5_9_30 C dX5_bringIn_54 57 rfl ?_
  refine g_iload_n C dX5_bringIn_57 rfl 1 rfl 58 rfl ?_
  obtain ⟨c_11, h⟩ := o_chk h
  refine wlX_31 C c_11 dX5_bringIn_58 59 rfl ?_
  exact g_iret C hr dX5_bringIn_59 h
end WK
/-! X10_land public int land(int); -/
def fX10_land (n : Nat) (x1 : Int32) (σ : ST) : Option (Int32 × ST) :=
  (Option.bind (fX10_isBelow x1 ((6 : Int32)) σ) (fun q_1 => (if q_1.1 = 0 then (some ((-1 : Int32), q_1.2)) else (Option.bind (fX9_undo n x1 q_1.2) (fun q_3 => (Option.bind (fX5_bringIn n x1 q_3) (fun q_4 => (some (q_4.1, q_4.2)))))))))
section WK
variable {p : Program} {l : Launch} {e : Env} {R : Room} {s : State} {m : MethodId} {args : Array Value} {below : List Frame} {meth : Method} {c : Code} {Q : State → Prop}
variable {D : va_G} {ad : Nat → Nat} {cI cJ cB cZ : ClassId} {A : Nat → Prop} {cc : ByteArray} {nL lev : Nat}
variable {σ : ST} {pc : Nat} {lv : List (Nat × Value)} {st : List Value}
set_option maxHeartbeats 4000000 in
set_option maxRecDepth 100000 in
theorem kX10_land {l : Launch} {D : va_G} {ad : Nat → Nat} {cI cJ cB cZ : ClassId}  {n : Nat} {x1 : Int32} {σ : ST} {res : Int32 × ST} (h : fX10_land n x1 σ = some res) : CMi l D (tyz cI cJ cB cZ) (wX ad cI cJ cB cZ) 3 yX10_land cX10_land 2 (some .int) [.ref (ad 0), .int x1] σ res := by
  refine cmi_body (own := RX10) (lv := [(0, .ref (ad 0)), (1, .int x1)]) (by decide) rfl (wX_addr _ _ _ _ _) (Nat.le_of_ble_eq_true rfl) rfl (fun p e s m args below meth c A C hr => ?_)
  unfold fX10_land at h
  refine g_iload_n C dX10_land_0 rfl 1 rfl 1 rfl ?_
  refine g_bipush C (v := 6) dX10_land_1 (by decide) 3 rfl ?_
  obtain ⟨q_1, hq_1, h⟩ := o_bind h
  refine wcX10_111_X C (kX10_isBelow hq_1) (by decide) (Nat.le_of_ble_eq_true rfl) dX10_land_3 6 rfl ?_
  refine g_if_ne C 11 dX10_land_6 (by decide) 9 rfl (fun c_2 => ?_) (fun c_2 => ?_)
  · have h := o_neg h c_2
    refine g_aload_n C dX10_land_11 rfl 0 rfl 12 rfl ?_
    refine wgX10_67_0 C dX10_land_12 15 rfl ?_
    refine g_iload_n C dX10_land_15 rfl 1 rfl 16 rfl ?_
    obtain ⟨q_3, hq_3, h⟩ := o_bind h
    refine wcX10_129_X_52 C (kX9_undo hq_3) (by decide) (Nat.le_of_ble_eq_true rfl) dX10_land_16 19 rfl ?_
    refine g_aload_n C dX10_land_19 rfl 0 rfl 20 rfl ?_
    refine wgX10_44_0 C dX10_land_20 23 rfl ?_
    refine g_iload_n C dX10_land_23 rfl 1 rfl 24 rfl ?_
    obtain ⟨q_4, hq_4, h⟩ := o_bind h
    refine wcX10_132_X_30 C (kX5_bringIn hq_4) (by decide) (Nat.le_of_ble_eq_true rfl) dX10_land_24 27 rfl ?_
    exact g_iret C hr dX10_land_27 h
  · have h := o_pos h c_2
    refine g_iconst C (v := -1) dX10_land_9 (by decide) 10 rfl ?_
    exact g_iret C hr dX10_land_10 h
end WK
/-! X3_addReader int addReader(int); -/
def fX3_addReader (x1 : Int32) (σ : ST) : Option (Int32 × ST) :=
  (lt (gI σ 15) (fun x2_1 => (if ((6 : Int32)) ≤ x2_1 then (some (x2_1, σ)) else (if ix x2_1 6 then (lt (stA σ 48 x2_1 x1) (fun σ_4 => (lt (sI σ_4 15 ((gI σ_4 15) + ((1 : Int32)))) (fun σ_5 => (some (x2_1, σ_5)))))) else none))))
section WK
variable {p : Program} {l : Launch} {e : Env} {R : Room} {s : State} {m : MethodId} {args : Array Value} {below : List Frame} {meth : Method} {c : Code} {Q : State → Prop}
variable {D : va_G} {ad : Nat → Nat} {cI cJ cB cZ : ClassId} {A : Nat → Prop} {cc : ByteArray} {nL lev : Nat}
variable {σ : ST} {pc : Nat} {lv : List (Nat × Value)} {st : List Value}
set_option maxHeartbeats 4000000 in
set_option maxRecDepth 100000 in
theorem kX3_addReader {l : Launch} {D : va_G} {ad : Nat → Nat} {cI cJ cB cZ : ClassId}  {x1 : Int32} {σ : ST} {res : Int32 × ST} (h : fX3_addReader x1 σ = some res) : CMi l D (tyz cI cJ cB cZ) (wX ad cI cJ cB cZ) 0 yX3_addReader cX3_addReader 3 (some .int) [.ref (ad 47), .int x1] σ res := by
  refine cmi_body (own := RX3) (lv := [(0, .ref (ad 47)), (1, .int x1)]) (by decide) rfl (wX_addr _ _ _ _ _) (Nat.le_of_ble_eq_true rfl) rfl (fun p e s m args below meth c A C hr => ?_)
  unfold fX3_addReader at h
  refine g_aload_n C dX3_addReader_0 rfl 0 rfl 1 rfl ?_
  refine wgX3_9_47 C dX3_addReader_1 4 rfl ?_
  obtain ⟨x2_1, ex2_1, h⟩ := o_lt h
  refine g_istore_n C (lv' := [(2, .int x2_1), (0, .ref (ad 47)), (1, .int x1)]) ex2_1 dX3_addReader_4 rfl (by decide) rfl 5 rfl ?_
  refine g_iload_n C dX3_addReader_5 rfl 0 rfl 6 rfl ?_
  refine g_bipush C (v := 6) dX3_addReader_6 (by decide) 8 rfl ?_
  refine g_icmp_ge C 28 dX3_addReader_8 (by decide) 11 rfl (fun c_2 => ?_) (fun c_2 => ?_)
  · have h := o_pos h c_2
    refine g_iload_n C dX3_addReader_28 rfl 0 rfl 29 rfl ?_
    exact g_iret C hr dX3_addReader_29 h
  · have h := o_neg h c_2
    refine g_aload_n C dX3_addReader_11 rfl 1 rfl 12 rfl ?_
    refine wgX3_21_47 C dX3_addReader_12 15 rfl ?_
    refine g_iload_n C dX3_addReader_15 rfl 0 rfl 16 rfl ?_
    refine g_iload_n C dX3_addReader_16 rfl 2 rfl 17 rfl ?_
    obtain ⟨c_3, h⟩ := o_chk h
    obtain ⟨σ_4, eσ_4, h⟩ := o_lt h
    refine wtX_48 C eσ_4 c_3 dX3_addReader_17 18 rfl ?_
    refine g_aload_n C dX3_addReader_18 rfl 1 rfl 19 rfl ?_
    refine g_dup C dX3_addReader_19 rfl 20 rfl ?_
    refine wgX3_9_47 C dX3_addReader_20 23 rfl ?_
    refine g_iconst C (v := 1) dX3_addReader_23 (by decide) 24 rfl ?_
    refine g_iadd C dX3_addReader_24 25 rfl ?_
    obtain ⟨σ_5, eσ_5, h⟩ := o_lt h
    refine wpX3_9_47 C eσ_5 dX3_addReader_25 28 rfl ?_
    refine g_iload_n C dX3_addReader_28 rfl 0 rfl 29 rfl ?_
    exact g_iret C hr dX3_addReader_29 h
end WK
/-! X10_reader public int reader(int); -/
def fX10_reader (x1 : Int32) (σ : ST) : Option (Int32 × ST) :=
  (if ((6 : Int32)) ≤ (gI σ 15) then (some ((-1 : Int32), σ)) else (if x1 < 0 then (some ((-1 : Int32), σ)) else (if x1 ≤ ((255 : Int32)) then (Option.bind (fX3_addReader x1 σ) (fun q_4 => (some (q_4.1, q_4.2)))) else (some ((-1 : Int32), σ)))))
section WK
variable {p : Program} {l : Launch} {e : Env} {R : Room} {s : State} {m : MethodId} {args : Array Value} {below : List Frame} {meth : Method} {c : Code} {Q : State → Prop}
variable {D : va_G} {ad : Nat → Nat} {cI cJ cB cZ : ClassId} {A : Nat → Prop} {cc : ByteArray} {nL lev : Nat}
variable {σ : ST} {pc : Nat} {lv : List (Nat × Value)} {st : List Value}
set_option maxHeartbeats 4000000 in
set_option maxRecDepth 100000 in
theorem kX10_reader {l : Launch} {D : va_G} {ad : Nat → Nat} {cI cJ cB cZ : ClassId}  {x1 : Int32} {σ : ST} {res : Int32 × ST} (h : fX10_reader x1 σ = some res) : CMi l D (tyz cI cJ cB cZ) (wX ad cI cJ cB cZ) 1 yX10_reader cX10_reader 2 (some .int) [.ref (ad 0), .int x1] σ res := by
  refine cmi_body (own := RX10) (lv := [(0, .ref (ad 0)), (1, .int x1)]) (by decide) rfl (wX_addr _ _ _ _ _) (Nat.le_of_ble_eq_true rfl) rfl (fun p e s m args below meth c A C hr => ?_)
  unfold fX10_reader at h
  refine g_aload_n C dX10_reader_0 rfl 0 rfl 1 rfl ?_
  refine wgX10_58_0 C dX10_reader_1 4 rfl ?_
  refine wgX10_136_47 C dX10_reader_4 7 rfl ?_
  refine g_bipush C (v := 6) dX10_reader_7 (by decide) 9 rfl ?_
  refine g_icmp_ge C 23 dX10_reader_9 (by decide) 12 rfl (fun c_1 => ?_) (fun c_1 => ?_)
  · have h := o_pos h c_1
    refine g_iconst C (v := -1) dX10_reader_23 (by decide) 24 rfl ?_
    exact g_iret C hr dX10_reader_24 h
  · have h := o_neg h c_1
    refine g_iload_n C dX10_reader_12 rfl 1 rfl 13 rfl ?_
    refine g_if_lt C 23 dX10_reader_13 (by decide) 16 rfl (fun c_2 => ?_) (fun c_2 => ?_)
    · have h := o_pos h c_2
      refine g_iconst C (v := -1) dX10_reader_23 (by decide) 24 rfl ?_
      exact g_iret C hr dX10_reader_24 h
    · have h := o_neg h c_2
      refine g_iload_n C dX10_reader_16 rfl 1 rfl 17 rfl ?_
      refine g_sipush C (v := 255) dX10_reader_17 (by decide) 20 rfl ?_
      refine g_icmp_le C 25 dX10_reader_20 (by decide) 23 rfl (fun c_3 => ?_) (fun c_3 => ?_)
      · have h := o_pos h c_3
        refine g_aload_n C dX10_reader_25 rfl 0 rfl 26 rfl ?_
        refine wgX10_58_0 C dX10_reader_26 29 rfl ?_
        refine g_iload_n C dX10_reader_29 rfl 1 rfl 30 rfl ?_
        obtain ⟨q_4, hq_4, h⟩ := o_bind h
        refine wcX10_139_X_47 C (kX3_addReader hq_4) (by decide) (Nat.le_of_ble_eq_true rfl) dX10_reader_30 33 rfl ?_
        exact g_iret C hr dX10_reader_33 h
      · have h := o_neg h c_3
        refine g_iconst C (v := -1) dX10_reader_23 (by decide) 24 rfl ?_
        exact g_iret C hr dX10_reader_24 h
end WK
/-! X3_hasReader boolean hasReader(int); -/
def fX3_hasReader (x1 : Int32) (σ : ST) : Option (Int32 × ST) :=
  (Option.bind (fX10_isBelow x1 (gI σ 15) σ) (fun q_1 => (if q_1.1 = 0 then (some ((0 : Int32), q_1.2)) else (if ((6 : Int32)) ≤ x1 then (some ((0 : Int32), q_1.2)) else (some ((1 : Int32), q_1.2))))))
section WK
variable {p : Program} {l : Launch} {e : Env} {R : Room} {s : State} {m : MethodId} {args : Array Value} {below : List Frame} {meth : Method} {c : Code} {Q : State → Prop}
variable {D : va_G} {ad : Nat → Nat} {cI cJ cB cZ : ClassId} {A : Nat → Prop} {cc : ByteArray} {nL lev : Nat}
variable {σ : ST} {pc : Nat} {lv : List (Nat × Value)} {st : List Value}
set_option maxHeartbeats 4000000 in
set_option maxRecDepth 100000 in
theorem kX3_hasReader {l : Launch} {D : va_G} {ad : Nat → Nat} {cI cJ cB cZ : ClassId}  {x1 : Int32} {σ : ST} {res : Int32 × ST} (h : fX3_hasReader x1 σ = some res) : CMi l D (tyz cI cJ cB cZ) (wX ad cI cJ cB cZ) 1 yX3_hasReader cX3_hasReader 2 (some .boolean) [.ref (ad 47), .int x1] σ res := by
  refine cmi_body (own := RX3) (lv := [(0, .ref (ad 47)), (1, .int x1)]) (by decide) rfl (wX_addr _ _ _ _ _) (Nat.le_of_ble_eq_true rfl) rfl (fun p e s m args below meth c A C hr => ?_)
  unfold fX3_hasReader at h
  refine g_iload_n C dX3_hasReader_0 rfl 1 rfl 1 rfl ?_
  refine g_aload_n C dX3_hasReader_1 rfl 0 rfl 2 rfl ?_
  refine wgX3_9_47 C dX3_hasReader_2 5 rfl ?_
  obtain ⟨q_1, hq_1, h⟩ := o_bind h
  refine wcX3_39_X C (kX10_isBelow hq_1) (by decide) (Nat.le_of_ble_eq_true rfl) dX3_hasReader_5 8 rfl ?_
  refine g_if_eq C 21 dX3_hasReader_8 (by decide) 11 rfl (fun c_2 => ?_) (fun c_2 => ?_)
  · have h := o_pos h c_2
    refine g_iconst C (v := 0) dX3_hasReader_21 (by decide) 22 rfl ?_
    exact g_zret C hr (by decide) dX3_hasReader_22 h
  · have h := o_neg h c_2
    refine g_iload_n C dX3_hasReader_11 rfl 1 rfl 12 rfl ?_
    refine g_bipush C (v := 6) dX3_hasReader_12 (by decide) 14 rfl ?_
    refine g_icmp_ge C 21 dX3_hasReader_14 (by decide) 17 rfl (fun c_3 => ?_) (fun c_3 => ?_)
    · have h := o_pos h c_3
      refine g_iconst C (v := 0) dX3_hasReader_21 (by decide) 22 rfl ?_
      exact g_zret C hr (by decide) dX3_hasReader_22 h
    · have h := o_neg h c_3
      refine g_iconst C (v := 1) dX3_hasReader_17 (by decide) 18 rfl ?_
      refine g_goto C 22 dX3_hasReader_18 (by decide) ?_
      exact g_zret C hr (by decide) dX3_hasReader_22 h
end WK
/-! X10_rights public boolean rights(int, int); -/
def fX10_rights (x1 : Int32) (x2 : Int32) (σ : ST) : Option (Int32 × ST) :=
  (Option.bind (fX3_hasReader x1 σ) (fun q_1 => (if q_1.1 = 0 then (some ((0 : Int32), q_1.2)) else (if x2 < 0 then (some ((0 : Int32), q_1.2)) else (if x2 ≤ ((255 : Int32)) then (if ix x1 6 then (lt (stA q_1.2 48 x1 x2) (fun σ_6 => (some ((1 : Int32), σ_6)))) else none) else (some ((0 : Int32), q_1.2)))))))
section WK
variable {p : Program} {l : Launch} {e : Env} {R : Room} {s : State} {m : MethodId} {args : Array Value} {below : List Frame} {meth : Method} {c : Code} {Q : State → Prop}
variable {D : va_G} {ad : Nat → Nat} {cI cJ cB cZ : ClassId} {A : Nat → Prop} {cc : ByteArray} {nL lev : Nat}
variable {σ : ST} {pc : Nat} {lv : List (Nat × Value)} {st : List Value}
set_option maxHeartbeats 4000000 in
set_option maxRecDepth 100000 in
theorem kX10_rights {l : Launch} {D : va_G} {ad : Nat → Nat} {cI cJ cB cZ : ClassId}  {x1 : Int32} {x2 : Int32} {σ : ST} {res : Int32 × ST} (h : fX10_rights x1 x2 σ = some res) : CMi l D (tyz cI cJ cB cZ) (wX ad cI cJ cB cZ) 2 yX10_rights cX10_rights 3 (some .boolean) [.ref (ad 0), .int x1, .int x2] σ res := by
  refine cmi_body (own := RX10) (lv := [(0, .ref (ad 0)), (1, .int x1), (2, .int x2)]) (by decide) rfl (wX_addr _ _ _ _ _) (Nat.le_of_ble_eq_true rfl) rfl (fun p e s m args below meth c A C hr => ?_)
  unfold fX10_rights at h
  refine g_aload_n C dX10_rights_0 rfl 0 rfl 1 rfl ?_
  refine wgX10_58_0 C dX10_rights_1 4 rfl ?_
  refine g_iload_n C dX10_rights_4 rfl 1 rfl 5 rfl ?_
  obtain ⟨q_1, hq_1, h⟩ := o_bind h
  refine wcX10_142_X_47 C (kX3_hasReader hq_1) (by decide) (Nat.le_of_ble_eq_true rfl) dX10_rights_5 8 rfl ?_
  refine g_if_eq C 22 dX10_rights_8 (by decide) 11 rfl (fun c_2 => ?_) (fun c_2 => ?_)
  · have h := o_pos h c_2
    refine g_iconst C (v := 0) dX10_rights_22 (by decide) 23 rfl ?_
    exact g_zret C hr (by decide) dX10_rights_23 h
  · have h := o_neg h c_2
    refine g_iload_n C dX10_rights_11 rfl 2 rfl 12 rfl ?_
    refine g_if_lt C 22 dX10_rights_12 (by decide) 15 rfl (fun c_3 => ?_) (fun c_3 => ?_)
    · have h := o_pos h c_3
      refine g_iconst C (v := 0) dX10_rights_22 (by decide) 23 rfl ?_
      exact g_zret C hr (by decide) dX10_rights_23 h
    · have h := o_neg h c_3
      refine g_iload_n C dX10_rights_15 rfl 2 rfl 16 rfl ?_
      refine g_sipush C (v := 255) dX10_rights_16 (by decide) 19 rfl ?_
      refine g_icmp_le C 24 dX10_rights_19 (by decide) 22 rfl (fun c_4 => ?_) (fun c_4 => ?_)
      · have h := o_pos h c_4
        refine g_aload_n C dX10_rights_24 rfl 0 rfl 25 rfl ?_
        refine wgX10_58_0 C dX10_rights_25 28 rfl ?_
        refine wgX10_146_47 C dX10_rights_28 31 rfl ?_
        refine g_iload_n C dX10_rights_31 rfl 1 rfl 32 rfl ?_
        refine g_iload_n C dX10_rights_32 rfl 2 rfl 33 rfl ?_
        obtain ⟨c_5, h⟩ := o_chk h
        obtain ⟨σ_6, eσ_6, h⟩ := o_lt h
        refine wtX_48 C eσ_6 c_5 dX10_rights_33 34 rfl ?_
        refine g_iconst C (v := 1) dX10_rights_34 (by decide) 35 rfl ?_
        exact g_zret C hr (by decide) dX10_rights_35 h
      · have h := o_neg h c_4
        refine g_iconst C (v := 0) dX10_rights_22 (by decide) 23 rfl ?_
        exact g_zret C hr (by decide) dX10_rights_23 h
end WK
/-! X3_isHeld boolean isHeld(int); -/
def fX3_isHeld (x1 : Int32) (σ : ST) : Option (Int32 × ST) :=
  (if (((gI σ 16) >>> (x1 &&& 31)) &&& ((1 : Int32))) = 0 then (some ((0 : Int32), σ)) else (some ((1 : Int32), σ)))
section WK
variable {p : Program} {l : Launch} {e : Env} {R : Room} {s : State} {m : MethodId} {args : Array Value} {below : List Frame} {meth : Method} {c : Code} {Q : State → Prop}
variable {D : va_G} {ad : Nat → Nat} {cI cJ cB cZ : ClassId} {A : Nat → Prop} {cc : ByteArray} {nL lev : Nat}
variable {σ : ST} {pc : Nat} {lv : List (Nat × Value)} {st : List Value}
set_option maxHeartbeats 4000000 in
set_option maxRecDepth 100000 in
theorem kX3_isHeld {l : Launch} {D : va_G} {ad : Nat → Nat} {cI cJ cB cZ : ClassId}  {x1 : Int32} {σ : ST} {res : Int32 × ST} (h : fX3_isHeld x1 σ = some res) : CMi l D (tyz cI cJ cB cZ) (wX ad cI cJ cB cZ) 0 yX3_isHeld cX3_isHeld 2 (some .boolean) [.ref (ad 47), .int x1] σ res := by
  refine cmi_body (own := RX3) (lv := [(0, .ref (ad 47)), (1, .int x1)]) (by decide) rfl (wX_addr _ _ _ _ _) (Nat.le_of_ble_eq_true rfl) rfl (fun p e s m args below meth c A C hr => ?_)
  unfold fX3_isHeld at h
  refine g_aload_n C dX3_isHeld_0 rfl 0 rfl 1 rfl ?_
  refine wgX3_15_47 C dX3_isHeld_1 4 rfl ?_
  refine g_iload_n C dX3_isHeld_4 rfl 1 rfl 5 rfl ?_
  refine g_ishr C dX3_isHeld_5 6 rfl ?_
  refine g_iconst C (v := 1) dX3_isHeld_6 (by decide) 7 rfl ?_
  refine g_iand C dX3_isHeld_7 8 rfl ?_
  refine g_if_eq C 15 dX3_isHeld_8 (by decide) 11 rfl (fun c_1 => ?_) (fun c_1 => ?_)
  · have h := o_pos h c_1
    refine g_iconst C (v := 0) dX3_isHeld_15 (by decide) 16 rfl ?_
    exact g_zret C hr (by decide) dX3_isHeld_16 h
  · have h := o_neg h c_1
    refine g_iconst C (v := 1) dX3_isHeld_11 (by decide) 12 rfl ?_
    refine g_goto C 16 dX3_isHeld_12 (by decide) ?_
    exact g_zret C hr (by decide) dX3_isHeld_16 h
end WK
/-! X3_isRead boolean isRead(int, int); -/
def fX3_isRead (x1 : Int32) (x2 : Int32) (σ : ST) : Option (Int32 × ST) :=
  (if ix x1 7 then (if (((ldA σ 49 x1) >>> (x2 &&& 31)) &&& ((1 : Int32))) = 0 then (some ((0 : Int32), σ)) else (some ((1 : Int32), σ))) else none)
section WK
variable {p : Program} {l : Launch} {e : Env} {R : Room} {s : State} {m : MethodId} {args : Array Value} {below : List Frame} {meth : Method} {c : Code} {Q : State → Prop}
variable {D : va_G} {ad : Nat → Nat} {cI cJ cB cZ : ClassId} {A : Nat → Prop} {cc : ByteArray} {nL lev : Nat}
variable {σ : ST} {pc : Nat} {lv : List (Nat × Value)} {st : List Value}
set_option maxHeartbeats 4000000 in
set_option maxRecDepth 100000 in
theorem kX3_isRead {l : Launch} {D : va_G} {ad : Nat → Nat} {cI cJ cB cZ : ClassId}  {x1 : Int32} {x2 : Int32} {σ : ST} {res : Int32 × ST} (h : fX3_isRead x1 x2 σ = some res) : CMi l D (tyz cI cJ cB cZ) (wX ad cI cJ cB cZ) 0 yX3_isRead cX3_isRead 3 (some .boolean) [.ref (ad 47), .int x1, .int x2] σ res := by
  refine cmi_body (own := RX3) (lv := [(0, .ref (ad 47)), (1, .int x1), (2, .int x2)]) (by decide) rfl (wX_addr _ _ _ _ _) (Nat.le_of_ble_eq_true rfl) rfl (fun p e s m args below meth c A C hr => ?_)
  unfold fX3_isRead at h
  refine g_aload_n C dX3_isRead_0 rfl 0 rfl 1 rfl ?_
  refine wgX3_25_47 C dX3_isRead_1 4 rfl ?_
  refine g_iload_n C dX3_isRead_4 rfl 1 rfl 5 rfl ?_
  obtain ⟨c_1, h⟩ := o_chk h
  refine wlX_49 C c_1 dX3_isRead_5 6 rfl ?_
  refine g_iload_n C dX3_isRead_6 rfl 2 rfl 7 rfl ?_
  refine g_ishr C dX3_isRead_7 8 rfl ?_
  refine g_iconst C (v := 1) dX3_isRead_8 (by decide) 9 rfl ?_
  refine g_iand C dX3_isRead_9 10 rfl ?_
  refine g_if_eq C 17 dX3_isRead_10 (by decide) 13 rfl (fun c_2 => ?_) (fun c_2 => ?_)
  · have h := o_pos h c_2
    refine g_iconst C (v := 0) dX3_isRead_17 (by decide) 18 rfl ?_
    exact g_zret C hr (by decide) dX3_isRead_18 h
  · have h := o_neg h c_2
    refine g_iconst C (v := 1) dX3_isRead_13 (by decide) 14 rfl ?_
    refine g_goto C 18 dX3_isRead_14 (by decide) ?_
    exact g_zret C hr (by decide) dX3_isRead_18 h
end WK
/-! X3_cell static int cell(int, int); -/
def fX3_cell (x0 : Int32) (x1 : Int32) (σ : ST) : Option (Int32 × ST) :=
  (some ((x0 * ((6 : Int32))) + x1, σ))
section WK
variable {p : Program} {l : Launch} {e : Env} {R : Room} {s : State} {m : MethodId} {args : Array Value} {below : List Frame} {meth : Method} {c : Code} {Q : State → Prop}
variable {D : va_G} {ad : Nat → Nat} {cI cJ cB cZ : ClassId} {A : Nat → Prop} {cc : ByteArray} {nL lev : Nat}
variable {σ : ST} {pc : Nat} {lv : List (Nat × Value)} {st : List Value}
set_option maxHeartbeats 4000000 in
set_option maxRecDepth 100000 in
theorem kX3_cell {l : Launch} {D : va_G} {ad : Nat → Nat} {cI cJ cB cZ : ClassId}  {x0 : Int32} {x1 : Int32} {σ : ST} {res : Int32 × ST} (h : fX3_cell x0 x1 σ = some res) : CMi l D (tyz cI cJ cB cZ) (wX ad cI cJ cB cZ) 0 yX3_cell cX3_cell 2 (some .int) [.int x0, .int x1] σ res := by
  refine cmi_body (own := RX3) (lv := [(0, .int x0), (1, .int x1)]) (by decide) rfl (wX_addr _ _ _ _ _) (Nat.le_of_ble_eq_true rfl) rfl (fun p e s m args below meth c A C hr => ?_)
  unfold fX3_cell at h
  refine g_iload_n C dX3_cell_0 rfl 0 rfl 1 rfl ?_
  refine g_bipush C (v := 6) dX3_cell_1 (by decide) 3 rfl ?_
  refine g_imul C dX3_cell_3 4 rfl ?_
  refine g_iload_n C dX3_cell_4 rfl 1 rfl 5 rfl ?_
  refine g_iadd C dX3_cell_5 6 rfl ?_
  exact g_iret C hr dX3_cell_6 h
end WK
/-! X3_offer private void offer(int, int); -/
def fX3_offer_L44 (k148 : Int32 → Int32 → ST → Option (ST)) : Nat → Int32 → Int32 → Int32 → Int32 → Int32 → ST → Option (ST)
  | 0, _, _, _, _, _, _ => none
  | n + 1, x1, x2, x3, x4, x5, σ => (if ((8 : Int32)) ≤ x5 then (k148 x3 x4 σ) else (if ix x2 6 then (lt (fun (x1_13 : Int32) (x2_14 : Int32) (x3_15 : Int32) (x4_16 : Int32) (x5_17 : Int32) (v_18 : Int32) (σ_19 : ST) => (lt (v_18) (fun x6_20 => (lt (fun (x1_21 : Int32) (x2_22 : Int32) (x3_23 : Int32) (x4_24 : Int32) (x5_25 : Int32) (v_26 : Int64) (σ_27 : ST) => (lt (v_26) (fun x7_28 => (lt (fun (x1_29 : Int32) (x2_30 : Int32) (x3_31 : Int32) (x5_32 : Int32) (x7_33 : Int64) (v_34 : Int32) (σ_35 : ST) => (lt (v_34) (fun x4_36 => (if ix ((x3_31 * ((8 : Int32))) + x5_32) 336 then (lt (stB σ_35 51 ((x3_31 * ((8 : Int32))) + x5_32) x7_33) (fun σ_38 => (lt (x5_32 + 1) (fun x5_39 => (fX3_offer_L44 k148 n x1_29 x2_30 x3_31 x4_36 x5_39 σ_38))))) else none)))) (fun j126 => (lt (fun (x1_40 : Int32) (x2_41 : Int32) (x3_42 : Int32) (x5_43 : Int32) (x7_44 : Int64) (σ_45 : ST) => (j126 x1_40 x2_41 x3_42 x5_43 x7_44 ((1 : Int32)) σ_45)) (fun j121 => (if x4_24 = 0 then (if ix ((x3_23 * ((8 : Int32))) + x5_25) 336 then (if (lg_cmp x7_28 (ldB σ_27 51 ((x3_23 * ((8 : Int32))) + x5_25))) = 0 then (j126 x1_21 x2_22 x3_23 x5_25 x7_28 ((0 : Int32)) σ_27) else (j121 x1_21 x2_22 x3_23 x5_25 x7_28 σ_27)) else none) else (j121 x1_21 x2_22 x3_23 x5_25 x7_28 σ_27))))))))) (fun j96 => (if x6_20 = 0 then (j96 x1_13 x2_14 x3_15 x4_16 x5_17 ((0 : Int64)) σ_19) else (if ix ((x1_13 * ((8 : Int32))) + x5_17) 56 then (j96 x1_13 x2_14 x3_15 x4_16 x5_17 (ldB σ_19 45 ((x1_13 * ((8 : Int32))) + x5_17)) σ_19) else none))))))) (fun j70 => (if (((ldA σ 48 x2) >>> (x5 &&& 31)) &&& ((1 : Int32))) = 0 then (j70 x1 x2 x3 x4 x5 ((0 : Int32)) σ) else (j70 x1 x2 x3 x4 x5 ((1 : Int32)) σ)))) else none))
def fX3_offer (n : Nat) (x1 : Int32) (x2 : Int32) (σ : ST) : Option (ST) :=
  (Option.bind (fX10_isBelow x1 ((7 : Int32)) σ) (fun q_1 => (if q_1.1 = 0 then (some q_1.2) else (Option.bind (fX10_isBelow x2 ((6 : Int32)) q_1.2) (fun q_3 => (if q_3.1 = 0 then (some q_3.2) else (Option.bind (fX3_cell x1 x2 q_3.2) (fun q_5 => (lt (q_5.1) (fun x3_6 => (if ix x3_6 42 then (if (ldA q_5.2 50 x3_6) = 0 then (lt ((1 : Int32)) (fun x4_60 => (lt ((0 : Int32)) (fun x5_61 => (fX3_offer_L44 (fun (x3_62 : Int32) (x4_63 : Int32) (σ_64 : ST) => (if x4_63 = 0 then (some σ_64) else (if ix x3_62 42 then (if ix x3_62 42 then (lt (stA σ_64 50 x3_62 ((ldA σ_64 50 x3_62) + ((1 : Int32)))) (fun σ_68 => (lt (sI σ_68 17 ((gI σ_68 17) + ((1 : Int32)))) (fun σ_69 => (some σ_69))))) else none) else none))) n x1 x2 x3_6 x4_60 x5_61 q_5.2))))) else (lt ((0 : Int32)) (fun x4_9 => (lt ((0 : Int32)) (fun x5_10 => (fX3_offer_L44 (fun (x3_52 : Int32) (x4_53 : Int32) (σ_54 : ST) => (if x4_53 = 0 then (some σ_54) else (if ix x3_52 42 then (if ix x3_52 42 then (lt (stA σ_54 50 x3_52 ((ldA σ_54 50 x3_52) + ((1 : Int32)))) (fun σ_58 => (lt (sI σ_58 17 ((gI σ_58 17) + ((1 : Int32)))) (fun σ_59 => (some σ_59))))) else none) else none))) n x1 x2 x3_6 x4_9 x5_10 q_5.2)))))) else none)))))))))))
section WK
variable {p : Program} {l : Launch} {e : Env} {R : Room} {s : State} {m : MethodId} {args : Array Value} {below : List Frame} {meth : Method} {c : Code} {Q : State → Prop}
variable {D : va_G} {ad : Nat → Nat} {cI cJ cB cZ : ClassId} {A : Nat → Prop} {cc : ByteArray} {nL lev : Nat}
variable {σ : ST} {pc : Nat} {lv : List (Nat × Value)} {st : List Value}
set_option maxHeartbeats 4000000 in
set_option maxRecDepth 100000 in
theorem kX3_offer_L44 (C : Ctx p l e (rmL 1) s m args below meth c D (tyz cI cJ cB cZ) (wX ad cI cJ cB cZ) A cX3_offer 9 1 RX3) (hr : meth.sig.returnType = none) {res : ST} {k148 : Int32 → Int32 → ST → Option (ST)} (hk148 : ∀ (x3 : Int32) (x4 : Int32) (σ : ST), k148 x3 x4 σ = some res → G p l e (rmL 1) s m args below meth c (MQ below (Qv D (tyz cI cJ cB cZ) (wX ad cI cJ cB cZ) A res) args s 0 0 A) D (wX ad cI cJ cB cZ) A 9 σ 148 [(0, .ref (ad 47)), (3, .int x3), (4, .int x4)] []) : ∀ (n : Nat) (x1 : Int32) (x2 : Int32) (x3 : Int32) (x4 : Int32) (x5 : Int32) (σ : ST), fX3_offer_L44 k148 n x1 x2 x3 x4 x5 σ = some res → G p l e (rmL 1) s m args below meth c (MQ below (Qv D (tyz cI cJ cB cZ) (wX ad cI cJ cB cZ) A res) args s 0 0 A) D (wX ad cI cJ cB cZ) A 9 σ 44 [(0, .ref (ad 47)), (1, .int x1), (2, .int x2), (3, .int x3), (4, .int x4), (5, .int x5)] [] := by
  intro n
  induction n with
  | zero => intro x1 x2 x3 x4 x5 σ h; have h : none = some res := h; cases h
  | succ n ih =>
    intro x1 x2 x3 x4 x5 σ h
    rw [fX3_offer_L44] at h
    refine g_iload C dX3_offer_44 5 rfl 46 rfl ?_
    refine g_bipush C (v := 8) dX3_offer_46 (by decide) 48 rfl ?_
    refine g_icmp_ge C 148 dX3_offer_48 (by decide) 51 rfl (fun c_11 => ?_) (fun c_11 => ?_)
    · have h := o_pos h c_11
      exact g_sub C [0, 3, 4] rfl (hk148 x3 x4 σ h)
    · have h := o_neg h c_11
      refine g_aload_n C dX3_offer_51 rfl 0 rfl 52 rfl ?_
      refine wgX3_21_47 C dX3_offer_52 55 rfl ?_
      refine g_iload_n C dX3_offer_55 rfl 2 rfl 56 rfl ?_
      obtain ⟨c_12, h⟩ := o_chk h
      refine wlX_48 C c_12 dX3_offer_56 57 rfl ?_
      refine g_iload C dX3_offer_57 5 rfl 59 rfl ?_
      refine g_ishr C dX3_offer_59 60 rfl ?_
      refine g_iconst C (v := 1) dX3_offer_60 (by decide) 61 rfl ?_
      refine g_iand C dX3_offer_61 62 rfl ?_
      obtain ⟨j70, ej70, h⟩ := o_lt h
      have hj70 : ∀ (x1_13 : Int32) (x2_14 : Int32) (x3_15 : Int32) (x4_16 : Int32) (x5_17 : Int32) (v_18 : Int32) (σ_19 : ST), j70 x1_13 x2_14 x3_15 x4_16 x5_17 v_18 σ_19 = some res → G p l e (rmL 1) s m args below meth c (MQ below (Qv D (tyz cI cJ cB cZ) (wX ad cI cJ cB cZ) A res) args s 0 0 A) D (wX ad cI cJ cB cZ) A 9 σ_19 70 [(0, .ref (ad 47)), (1, .int x1_13), (2, .int x2_14), (3, .int x3_15), (4, .int x4_16), (5, .int x5_17)] [.int v_18] := by
        intro x1_13 x2_14 x3_15 x4_16 x5_17 v_18 σ_19 h
        rw [ej70] at h
        obtain ⟨x6_20, ex6_20, h⟩ := o_lt h
        refine g_istore C (lv' := [(6, .int x6_20), (0, .ref (ad 47)), (1, .int x1_13), (2, .int x2_14), (3, .int x3_15), (4, .int x4_16), (5, .int x5_17)]) ex6_20 dX3_offer_70 (by decide) rfl 72 rfl ?_
        refine g_iload C dX3_offer_72 0 rfl 74 rfl ?_
        obtain ⟨j96, ej96, h⟩ := o_lt h
        have hj96 : ∀ (x1_21 : Int32) (x2_22 : Int32) (x3_23 : Int32) (x4_24 : Int32) (x5_25 : Int32) (v_26 : Int64) (σ_27 : ST), j96 x1_21 x2_22 x3_23 x4_24 x5_25 v_26 σ_27 = some res → G p l e (rmL 1) s m args below meth c (MQ below (Qv D (tyz cI cJ cB cZ) (wX ad cI cJ cB cZ) A res) args s 0 0 A) D (wX ad cI cJ cB cZ) A 9 σ_27 96 [(0, .ref (ad 47)), (1, .int x1_21), (2, .int x2_22), (3, .int x3_23), (4, .int x4_24), (5, .int x5_25)] [.long v_26] := by
          intro x1_21 x2_22 x3_23 x4_24 x5_25 v_26 σ_27 h
          rw [ej96] at h
          obtain ⟨x7_28, ex7_28, h⟩ := o_lt h
          refine g_lstore C (lv' := [(7, .long x7_28), (0, .ref (ad 47)), (1, .int x1_21), (2, .int x2_22), (3, .int x3_23), (4, .int x4_24), (5, .int x5_25)]) ex7_28 dX3_offer_96 (by decide) rfl 98 rfl ?_
          refine g_iload C dX3_offer_98 5 rfl 100 rfl ?_
          obtain ⟨j126, ej126, h⟩ := o_lt h
          have hj126 : ∀ (x1_29 : Int32) (x2_30 : Int32) (x3_31 : Int32) (x5_32 : Int32) (x7_33 : Int64) (v_34 : Int32) (σ_35 : ST), j126 x1_29 x2_30 x3_31 x5_32 x7_33 v_34 σ_35 = some res → G p l e (rmL 1) s m args below meth c (MQ below (Qv D (tyz cI cJ cB cZ) (wX ad cI cJ cB cZ) A res) args s 0 0 A) D (wX ad cI cJ cB cZ) A 9 σ_35 126 [(0, .ref (ad 47)), (1, .int x1_29), (2, .int x2_30), (3, .int x3_31), (5, .int x5_32), (7, .long x7_33)] [.int v_34] := by
            intro x1_29 x2_30 x3_31 x5_32 x7_33 v_34 σ_35 h
            rw [ej126] at h
            obtain ⟨x4_36, ex4_36, h⟩ := o_lt h
            refine g_istore C (lv' := [(4, .int x4_36), (0, .ref (ad 47)), (1, .int x1_29), (2, .int x2_30), (3, .int x3_31), (5, .int x5_32), (7, .long x7_33)]) ex4_36 dX3_offer_126 (by decide) rfl 128 rfl ?_
            refine g_aload_n C dX3_offer_128 rfl 1 rfl 129 rfl ?_
            refine wgX3_31_47 C dX3_offer_129 132 rfl ?_
            refine g_iload_n C dX3_offer_132 rfl 4 rfl 133 rfl ?_
            refine g_bipush C (v := 8) dX3_offer_133 (by decide) 135 rfl ?_
            refine g_imul C dX3_offer_135 136 rfl ?_
            refine g_iload C dX3_offer_136 5 rfl 138 rfl ?_
            refine g_iadd C dX3_offer_138 139 rfl ?_
            refine g_lload C dX3_offer_139 6 rfl 141 rfl ?_
            obtain ⟨c_37, h⟩ := o_chk h
            obtain ⟨σ_38, eσ_38, h⟩ := o_lt h
            refine wtX_51 C eσ_38 c_37 dX3_offer_141 142 rfl ?_
            obtain ⟨x5_39, ex5_39, h⟩ := o_lt h
            refine g_iinc C (lv' := [(5, .int x5_39), (4, .int x4_36), (0, .ref (ad 47)), (1, .int x1_29), (2, .int x2_30), (3, .int x3_31), (7, .long x7_33)]) ex5_39 dX3_offer_142 5 rfl (by decide) (by decide) rfl 145 rfl ?_
            refine g_goto C 44 dX3_offer_145 (by decide) ?_
            exact g_sub C [2, 3, 4, 5, 1, 0] rfl (ih x1_29 x2_30 x3_31 x4_36 x5_39 σ_38 h)
          obtain ⟨j121, ej121, h⟩ := o_lt h
          have hj121 : ∀ (x1_40 : Int32) (x2_41 : Int32) (x3_42 : Int32) (x5_43 : Int32) (x7_44 : Int64) (σ_45 : ST), j121 x1_40 x2_41 x3_42 x5_43 x7_44 σ_45 = some res → G p l e (rmL 1) s m args below meth c (MQ below (Qv D (tyz cI cJ cB cZ) (wX ad cI cJ cB cZ) A res) args s 0 0 A) D (wX ad cI cJ cB cZ) A 9 σ_45 121 [(0, .ref (ad 47)), (1, .int x1_40), (2, .int x2_41), (3, .int x3_42), (5, .int x5_43), (7, .long x7_44)] [] := by
            intro x1_40 x2_41 x3_42 x5_43 x7_44 σ_45 h
            rw [ej121] at h
            refine g_iconst C (v := 1) dX3_offer_121 (by decide) 122 rfl ?_
            refine g_goto C 126 dX3_offer_122 (by decide) ?_
            exact g_sub C [0, 1, 2, 3, 4, 5] rfl (hj126 x1_40 x2_41 x3_42 x5_43 x7_44 ((1 : Int32)) σ_45 h)
          refine g_if_ne C 121 dX3_offer_100 (by decide) 103 rfl (fun c_46 => ?_) (fun c_46 => ?_)
          · have h := o_neg h c_46
            exact g_sub C [1, 2, 3, 4, 6, 0] rfl (hj121 x1_21 x2_22 x3_23 x5_25 x7_28 σ_27 h)
          · have h := o_pos h c_46
            refine g_lload C dX3_offer_103 0 rfl 105 rfl ?_
            refine g_aload_n C dX3_offer_105 rfl 1 rfl 106 rfl ?_
            refine wgX3_31_47 C dX3_offer_106 109 rfl ?_
            refine g_iload_n C dX3_offer_109 rfl 4 rfl 110 rfl ?_
            refine g_bipush C (v := 8) dX3_offer_110 (by decide) 112 rfl ?_
            refine g_imul C dX3_offer_112 113 rfl ?_
            refine g_iload C dX3_offer_113 6 rfl 115 rfl ?_
            refine g_iadd C dX3_offer_115 116 rfl ?_
            obtain ⟨c_47, h⟩ := o_chk h
            refine wlX_51 C c_47 dX3_offer_116 117 rfl ?_
            refine g_lcmp C dX3_offer_117 118 rfl ?_
            refine g_if_eq C 125 dX3_offer_118 (by decide) 121 rfl (fun c_48 => ?_) (fun c_48 => ?_)
            · have h := o_pos h c_48
              refine g_iconst C (v := 0) dX3_offer_125 (by decide) 126 rfl ?_
              exact g_sub C [1, 2, 3, 4, 6, 0] rfl (hj126 x1_21 x2_22 x3_23 x5_25 x7_28 ((0 : Int32)) σ_27 h)
            · have h := o_neg h c_48
              exact g_sub C [1, 2, 3, 4, 6, 0] rfl (hj121 x1_21 x2_22 x3_23 x5_25 x7_28 σ_27 h)
        refine g_if_eq C 95 dX3_offer_74 (by decide) 77 rfl (fun c_49 => ?_) (fun c_49 => ?_)
        · have h := o_pos h c_49
          refine g_lconst C (v := 0) dX3_offer_95 (by decide) 96 rfl ?_
          exact g_sub C [1, 2, 3, 4, 5, 6] rfl (hj96 x1_13 x2_14 x3_15 x4_16 x5_17 ((0 : Int64)) σ_19 h)
        · have h := o_neg h c_49
          refine g_aload_n C dX3_offer_77 rfl 1 rfl 78 rfl ?_
          refine wgX3_35_47 C dX3_offer_78 81 rfl ?_
          refine wgX3_58_44 C dX3_offer_81 84 rfl ?_
          refine g_iload_n C dX3_offer_84 rfl 2 rfl 85 rfl ?_
          refine g_bipush C (v := 8) dX3_offer_85 (by decide) 87 rfl ?_
          refine g_imul C dX3_offer_87 88 rfl ?_
          refine g_iload C dX3_offer_88 6 rfl 90 rfl ?_
          refine g_iadd C dX3_offer_90 91 rfl ?_
          obtain ⟨c_50, h⟩ := o_chk h
          refine wlX_45 C c_50 dX3_offer_91 92 rfl ?_
          refine g_goto C 96 dX3_offer_92 (by decide) ?_
          exact g_sub C [1, 2, 3, 4, 5, 6] rfl (hj96 x1_13 x2_14 x3_15 x4_16 x5_17 (ldB σ_19 45 ((x1_13 * ((8 : Int32))) + x5_17)) σ_19 h)
      refine g_if_eq C 69 dX3_offer_62 (by decide) 65 rfl (fun c_51 => ?_) (fun c_51 => ?_)
      · have h := o_pos h c_51
        refine g_iconst C (v := 0) dX3_offer_69 (by decide) 70 rfl ?_
        exact g_sub C [0, 1, 2, 3, 4, 5] rfl (hj70 x1 x2 x3 x4 x5 ((0 : Int32)) σ h)
      · have h := o_neg h c_51
        refine g_iconst C (v := 1) dX3_offer_65 (by decide) 66 rfl ?_
        refine g_goto C 70 dX3_offer_66 (by decide) ?_
        exact g_sub C [0, 1, 2, 3, 4, 5] rfl (hj70 x1 x2 x3 x4 x5 ((1 : Int32)) σ h)
set_option maxHeartbeats 4000000 in
set_option maxRecDepth 100000 in
theorem kX3_offer {l : Launch} {D : va_G} {ad : Nat → Nat} {cI cJ cB cZ : ClassId}  {n : Nat} {x1 : Int32} {x2 : Int32} {σ : ST} {res : ST} (h : fX3_offer n x1 x2 σ = some res) : CMv l D (tyz cI cJ cB cZ) (wX ad cI cJ cB cZ) 1 yX3_offer cX3_offer 9 none [.ref (ad 47), .int x1, .int x2] σ res := by
  refine cmv_body (own := RX3) (lv := [(0, .ref (ad 47)), (1, .int x1), (2, .int x2)]) (by decide) rfl (wX_addr _ _ _ _ _) (Nat.le_of_ble_eq_true rfl) rfl (fun p e s m args below meth c A C hr => ?_)
  unfold fX3_offer at h
  refine g_iload_n C dX3_offer_0 rfl 1 rfl 1 rfl ?_
  refine g_bipush C (v := 7) dX3_offer_1 (by decide) 3 rfl ?_
  obtain ⟨q_1, hq_1, h⟩ := o_bind h
  refine wcX3_39_X C (kX10_isBelow hq_1) (by decide) (Nat.le_of_ble_eq_true rfl) dX3_offer_3 6 rfl ?_
  refine g_if_eq C 18 dX3_offer_6 (by decide) 9 rfl (fun c_2 => ?_) (fun c_2 => ?_)
  · have h := o_pos h c_2
    exact g_vret C hr dX3_offer_18 h
  · have h := o_neg h c_2
    refine g_iload_n C dX3_offer_9 rfl 2 rfl 10 rfl ?_
    refine g_bipush C (v := 6) dX3_offer_10 (by decide) 12 rfl ?_
    obtain ⟨q_3, hq_3, h⟩ := o_bind h
    refine wcX3_39_X C (kX10_isBelow hq_3) (by decide) (Nat.le_of_ble_eq_true rfl) dX3_offer_12 15 rfl ?_
    refine g_if_ne C 19 dX3_offer_15 (by decide) 18 rfl (fun c_4 => ?_) (fun c_4 => ?_)
    · have h := o_neg h c_4
      refine g_iload_n C dX3_offer_19 rfl 1 rfl 20 rfl ?_
      refine g_iload_n C dX3_offer_20 rfl 2 rfl 21 rfl ?_
      obtain ⟨q_5, hq_5, h⟩ := o_bind h
      refine wcX3_54_X C (kX3_cell hq_5) (by decide) (Nat.le_of_ble_eq_true rfl) dX3_offer_21 24 rfl ?_
      obtain ⟨x3_6, ex3_6, h⟩ := o_lt h
      refine g_istore_n C (lv' := [(3, .int x3_6), (0, .ref (ad 47)), (1, .int x1), (2, .int x2)]) ex3_6 dX3_offer_24 rfl (by decide) rfl 25 rfl ?_
      refine g_aload_n C dX3_offer_25 rfl 1 rfl 26 rfl ?_
      refine wgX3_28_47 C dX3_offer_26 29 rfl ?_
      refine g_iload_n C dX3_offer_29 rfl 0 rfl 30 rfl ?_
      obtain ⟨c_7, h⟩ := o_chk h
      refine wlX_50 C c_7 dX3_offer_30 31 rfl ?_
      refine g_if_ne C 38 dX3_offer_31 (by decide) 34 rfl (fun c_8 => ?_) (fun c_8 => ?_)
      · have h := o_neg h c_8
        refine g_iconst C (v := 0) dX3_offer_38 (by decide) 39 rfl ?_
        obtain ⟨x4_9, ex4_9, h⟩ := o_lt h
        refine g_istore C (lv' := [(4, .int x4_9), (3, .int x3_6), (0, .ref (ad 47)), (1, .int x1), (2, .int x2)]) ex4_9 dX3_offer_39 (by decide) rfl 41 rfl ?_
        refine g_iconst C (v := 0) dX3_offer_41 (by decide) 42 rfl ?_
        obtain ⟨x5_10, ex5_10, h⟩ := o_lt h
        refine g_istore C (lv' := [(5, .int x5_10), (4, .int x4_9), (3, .int x3_6), (0, .ref (ad 47)), (1, .int x1), (2, .int x2)]) ex5_10 dX3_offer_42 (by decide) rfl 44 rfl ?_
        exact g_sub C [3, 4, 5, 2, 1, 0] rfl (kX3_offer_L44 C hr (fun x3_52 x4_53 σ_54 h => by
            refine g_iload C dX3_offer_148 2 rfl 150 rfl ?_
            refine g_if_eq C 173 dX3_offer_150 (by decide) 153 rfl (fun c_55 => ?_) (fun c_55 => ?_)
            · have h := o_pos h c_55
              exact g_vret C hr dX3_offer_173 h
            · have h := o_neg h c_55
              refine g_aload_n C dX3_offer_153 rfl 0 rfl 154 rfl ?_
              refine wgX3_28_47 C dX3_offer_154 157 rfl ?_
              refine g_iload_n C dX3_offer_157 rfl 1 rfl 158 rfl ?_
              refine g_dup2 C dX3_offer_158 rfl rfl 159 rfl ?_
              obtain ⟨c_56, h⟩ := o_chk h
              refine wlX_50 C c_56 dX3_offer_159 160 rfl ?_
              refine g_iconst C (v := 1) dX3_offer_160 (by decide) 161 rfl ?_
              refine g_iadd C dX3_offer_161 162 rfl ?_
              obtain ⟨c_57, h⟩ := o_chk h
              obtain ⟨σ_58, eσ_58, h⟩ := o_lt h
              refine wtX_50 C eσ_58 c_57 dX3_offer_162 163 rfl ?_
              refine g_aload_n C dX3_offer_163 rfl 0 rfl 164 rfl ?_
              refine g_dup C dX3_offer_164 rfl 165 rfl ?_
              refine wgX3_18_47 C dX3_offer_165 168 rfl ?_
              refine g_iconst C (v := 1) dX3_offer_168 (by decide) 169 rfl ?_
              refine g_iadd C dX3_offer_169 170 rfl ?_
              obtain ⟨σ_59, eσ_59, h⟩ := o_lt h
              refine wpX3_18_47 C eσ_59 dX3_offer_170 173 rfl ?_
              exact g_vret C hr dX3_offer_173 h) n x1 x2 x3_6 x4_9 x5_10 q_5.2 h)
      · have h := o_pos h c_8
        refine g_iconst C (v := 1) dX3_offer_34 (by decide) 35 rfl ?_
        refine g_goto C 39 dX3_offer_35 (by decide) ?_
        obtain ⟨x4_60, ex4_60, h⟩ := o_lt h
        refine g_istore C (lv' := [(4, .int x4_60), (3, .int x3_6), (0, .ref (ad 47)), (1, .int x1), (2, .int x2)]) ex4_60 dX3_offer_39 (by decide) rfl 41 rfl ?_
        refine g_iconst C (v := 0) dX3_offer_41 (by decide) 42 rfl ?_
        obtain ⟨x5_61, ex5_61, h⟩ := o_lt h
        refine g_istore C (lv' := [(5, .int x5_61), (4, .int x4_60), (3, .int x3_6), (0, .ref (ad 47)), (1, .int x1), (2, .int x2)]) ex5_61 dX3_offer_42 (by decide) rfl 44 rfl ?_
        exact g_sub C [3, 4, 5, 2, 1, 0] rfl (kX3_offer_L44 C hr (fun x3_62 x4_63 σ_64 h => by
            refine g_iload C dX3_offer_148 2 rfl 150 rfl ?_
            refine g_if_eq C 173 dX3_offer_150 (by decide) 153 rfl (fun c_65 => ?_) (fun c_65 => ?_)
            · have h := o_pos h c_65
              exact g_vret C hr dX3_offer_173 h
            · have h := o_neg h c_65
              refine g_aload_n C dX3_offer_153 rfl 0 rfl 154 rfl ?_
              refine wgX3_28_47 C dX3_offer_154 157 rfl ?_
              refine g_iload_n C dX3_offer_157 rfl 1 rfl 158 rfl ?_
              refine g_dup2 C dX3_offer_158 rfl rfl 159 rfl ?_
              obtain ⟨c_66, h⟩ := o_chk h
              refine wlX_50 C c_66 dX3_offer_159 160 rfl ?_
              refine g_iconst C (v := 1) dX3_offer_160 (by decide) 161 rfl ?_
              refine g_iadd C dX3_offer_161 162 rfl ?_
              obtain ⟨c_67, h⟩ := o_chk h
              obtain ⟨σ_68, eσ_68, h⟩ := o_lt h
              refine wtX_50 C eσ_68 c_67 dX3_offer_162 163 rfl ?_
              refine g_aload_n C dX3_offer_163 rfl 0 rfl 164 rfl ?_
              refine g_dup C dX3_offer_164 rfl 165 rfl ?_
              refine wgX3_18_47 C dX3_offer_165 168 rfl ?_
              refine g_iconst C (v := 1) dX3_offer_168 (by decide) 169 rfl ?_
              refine g_iadd C dX3_offer_169 170 rfl ?_
              obtain ⟨σ_69, eσ_69, h⟩ := o_lt h
              refine wpX3_18_47 C eσ_69 dX3_offer_170 173 rfl ?_
              exact g_vret C hr dX3_offer_173 h) n x1 x2 x3_6 x4_60 x5_61 q_5.2 h)
    · have h := o_pos h c_4
      exact g_vret C hr dX3_offer_18 h
end WK
/-! X3_catchUp void catchUp(int, int); -/
def fX3_catchUp_L2  : Nat → Int32 → Int32 → Int32 → ST → Option (ST)
  | 0, _, _, _, _ => none
  | n + 1, x1, x2, x3, σ => (if ((7 : Int32)) ≤ x3 then (some σ) else (Option.bind (fX3_isRead x3 x1 σ) (fun q_3 => (if q_3.1 = 0 then (lt (x3 + 1) (fun x3_5 => (fX3_catchUp_L2 n x1 x2 x3_5 q_3.2))) else (if ((x2 >>> (x3 &&& 31)) &&& ((1 : Int32))) = 0 then (lt (x3 + 1) (fun x3_7 => (fX3_catchUp_L2 n x1 x2 x3_7 q_3.2))) else (Option.bind (fX3_offer n x3 x1 q_3.2) (fun q_8 => (lt (x3 + 1) (fun x3_9 => (fX3_catchUp_L2 n x1 x2 x3_9 q_8))))))))))
def fX3_catchUp (n : Nat) (x1 : Int32) (x2 : Int32) (σ : ST) : Option (ST) :=
  (lt ((0 : Int32)) (fun x3_1 => (fX3_catchUp_L2 n x1 x2 x3_1 σ)))
section WK
variable {p : Program} {l : Launch} {e : Env} {R : Room} {s : State} {m : MethodId} {args : Array Value} {below : List Frame} {meth : Method} {c : Code} {Q : State → Prop}
variable {D : va_G} {ad : Nat → Nat} {cI cJ cB cZ : ClassId} {A : Nat → Prop} {cc : ByteArray} {nL lev : Nat}
variable {σ : ST} {pc : Nat} {lv : List (Nat × Value)} {st : List Value}
set_option maxHeartbeats 4000000 in
set_option maxRecDepth 100000 in
theorem kX3_catchUp_L2 (C : Ctx p l e (rmL 2) s m args below meth c D (tyz cI cJ cB cZ) (wX ad cI cJ cB cZ) A cX3_catchUp 4 2 RX3) (hr : meth.sig.returnType = none) {res : ST}   : ∀ (n : Nat) (x1 : Int32) (x2 : Int32) (x3 : Int32) (σ : ST), fX3_catchUp_L2 n x1 x2 x3 σ = some res → G p l e (rmL 2) s m args below meth c (MQ below (Qv D (tyz cI cJ cB cZ) (wX ad cI cJ cB cZ) A res) args s 0 0 A) D (wX ad cI cJ cB cZ) A 4 σ 2 [(0, .ref (ad 47)), (1, .int x1), (2, .int x2), (3, .int x3)] [] := by
  intro n
  induction n with
  | zero => intro x1 x2 x3 σ h; have h : none = some res := h; cases h
  | succ n ih =>
    intro x1 x2 x3 σ h
    rw [fX3_catchUp_L2] at h
    refine g_iload_n C dX3_catchUp_2 rfl 3 rfl 3 rfl ?_
    refine g_bipush C (v := 7) dX3_catchUp_3 (by decide) 5 rfl ?_
    refine g_icmp_ge C 37 dX3_catchUp_5 (by decide) 8 rfl (fun c_2 => ?_) (fun c_2 => ?_)
    · have h := o_pos h c_2
      exact g_vret C hr dX3_catchUp_37 h
    · have h := o_neg h c_2
      refine g_aload_n C dX3_catchUp_8 rfl 0 rfl 9 rfl ?_
      refine g_iload_n C dX3_catchUp_9 rfl 3 rfl 10 rfl ?_
      refine g_iload_n C dX3_catchUp_10 rfl 1 rfl 11 rfl ?_
      obtain ⟨q_3, hq_3, h⟩ := o_bind h
      refine wcX3_43_X_47 C (kX3_isRead hq_3) (by decide) (Nat.le_of_ble_eq_true rfl) dX3_catchUp_11 14 rfl ?_
      refine g_if_eq C 31 dX3_catchUp_14 (by decide) 17 rfl (fun c_4 => ?_) (fun c_4 => ?_)
      · have h := o_pos h c_4
        obtain ⟨x3_5, ex3_5, h⟩ := o_lt h
        refine g_iinc C (lv' := [(3, .int x3_5), (0, .ref (ad 47)), (1, .int x1), (2, .int x2)]) ex3_5 dX3_catchUp_31 3 rfl (by decide) (by decide) rfl 34 rfl ?_
        refine g_goto C 2 dX3_catchUp_34 (by decide) ?_
        exact g_sub C [1, 2, 3, 0] rfl (ih x1 x2 x3_5 q_3.2 h)
      · have h := o_neg h c_4
        refine g_iload_n C dX3_catchUp_17 rfl 2 rfl 18 rfl ?_
        refine g_iload_n C dX3_catchUp_18 rfl 3 rfl 19 rfl ?_
        refine g_ishr C dX3_catchUp_19 20 rfl ?_
        refine g_iconst C (v := 1) dX3_catchUp_20 (by decide) 21 rfl ?_
        refine g_iand C dX3_catchUp_21 22 rfl ?_
        refine g_if_eq C 31 dX3_catchUp_22 (by decide) 25 rfl (fun c_6 => ?_) (fun c_6 => ?_)
        · have h := o_pos h c_6
          obtain ⟨x3_7, ex3_7, h⟩ := o_lt h
          refine g_iinc C (lv' := [(3, .int x3_7), (0, .ref (ad 47)), (1, .int x1), (2, .int x2)]) ex3_7 dX3_catchUp_31 3 rfl (by decide) (by decide) rfl 34 rfl ?_
          refine g_goto C 2 dX3_catchUp_34 (by decide) ?_
          exact g_sub C [1, 2, 3, 0] rfl (ih x1 x2 x3_7 q_3.2 h)
        · have h := o_neg h c_6
          refine g_aload_n C dX3_catchUp_25 rfl 0 rfl 26 rfl ?_
          refine g_iload_n C dX3_catchUp_26 rfl 3 rfl 27 rfl ?_
          refine g_iload_n C dX3_catchUp_27 rfl 1 rfl 28 rfl ?_
          obtain ⟨q_8, hq_8, h⟩ := o_bind h
          refine wcX3_50_X_47 C (kX3_offer hq_8) (by decide) (Nat.le_of_ble_eq_true rfl) dX3_catchUp_28 31 rfl ?_
          obtain ⟨x3_9, ex3_9, h⟩ := o_lt h
          refine g_iinc C (lv' := [(3, .int x3_9), (0, .ref (ad 47)), (1, .int x1), (2, .int x2)]) ex3_9 dX3_catchUp_31 3 rfl (by decide) (by decide) rfl 34 rfl ?_
          refine g_goto C 2 dX3_catchUp_34 (by decide) ?_
          exact g_sub C [1, 2, 3, 0] rfl (ih x1 x2 x3_9 q_8 h)
set_option maxHeartbeats 4000000 in
set_option maxRecDepth 100000 in
theorem kX3_catchUp {l : Launch} {D : va_G} {ad : Nat → Nat} {cI cJ cB cZ : ClassId}  {n : Nat} {x1 : Int32} {x2 : Int32} {σ : ST} {res : ST} (h : fX3_catchUp n x1 x2 σ = some res) : CMv l D (tyz cI cJ cB cZ) (wX ad cI cJ cB cZ) 2 yX3_catchUp cX3_catchUp 4 none [.ref (ad 47), .int x1, .int x2] σ res := by
  refine cmv_body (own := RX3) (lv := [(0, .ref (ad 47)), (1, .int x1), (2, .int x2)]) (by decide) rfl (wX_addr _ _ _ _ _) (Nat.le_of_ble_eq_true rfl) rfl (fun p e s m args below meth c A C hr => ?_)
  unfold fX3_catchUp at h
  refine g_iconst C (v := 0) dX3_catchUp_0 (by decide) 1 rfl ?_
  obtain ⟨x3_1, ex3_1, h⟩ := o_lt h
  refine g_istore_n C (lv' := [(3, .int x3_1), (0, .ref (ad 47)), (1, .int x1), (2, .int x2)]) ex3_1 dX3_catchUp_1 rfl (by decide) rfl 2 rfl ?_
  exact g_sub C [1, 2, 3, 0] rfl (kX3_catchUp_L2 C hr  n x1 x2 x3_1 σ h)
end WK
