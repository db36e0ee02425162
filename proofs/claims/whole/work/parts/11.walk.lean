/-! X4_beginStep void beginStep(boolean); -/
def fX4_beginStep (x1 : Int32) (σ : ST) : Option (ST) :=
  (if ((7 : Int32)) ≤ (gI σ 7) then (some σ) else (lt (fun (v_2 : Int32) (v_3 : Int32) (σ_4 : ST) => (lt (sI σ_4 8 (v_3 ||| (v_2 <<< ((gI σ_4 7) &&& 31)))) (fun σ_5 => (if ix (gI σ_5 7) 7 then (lt (stA σ_5 11 (gI σ_5 7) ((0 : Int32))) (fun σ_7 => (if ix (gI σ_7 7) 7 then (lt (stA σ_7 12 (gI σ_7 7) ((0 : Int32))) (fun σ_9 => (if ix (gI σ_9 7) 7 then (lt (stA σ_9 13 (gI σ_9 7) ((0 : Int32))) (fun σ_11 => (if ix (gI σ_11 7) 7 then (lt (stA σ_11 14 (gI σ_11 7) ((0 : Int32))) (fun σ_13 => (if ix (gI σ_13 7) 7 then (lt (stA σ_13 15 (gI σ_13 7) ((0 : Int32))) (fun σ_15 => (some σ_15))) else none))) else none))) else none))) else none))) else none)))) (fun j23 => (if x1 = 0 then (j23 ((0 : Int32)) (gI σ 8) σ) else (j23 ((1 : Int32)) (gI σ 8) σ)))))
section WK
variable {p : Program} {l : Launch} {e : Env} {R : Room} {s : State} {m : MethodId} {args : Array Value} {below : List Frame} {meth : Method} {c : Code} {Q : State → Prop}
variable {D : va_G} {ad : Nat → Nat} {cI cJ cB cZ : ClassId} {A : Nat → Prop} {cc : ByteArray} {nL lev : Nat}
variable {σ : ST} {pc : Nat} {lv : List (Nat × Value)} {st : List Value}
set_option maxHeartbeats 4000000 in
set_option maxRecDepth 100000 in
theorem kX4_beginStep {l : Launch} {D : va_G} {ad : Nat → Nat} {cI cJ cB cZ : ClassId}  {x1 : Int32} {σ : ST} {res : ST} (h : fX4_beginStep x1 σ = some res) : CMv l D (tyz cI cJ cB cZ) (wX ad cI cJ cB cZ) 0 yX4_beginStep cX4_beginStep 2 none [.ref (ad 8), .int x1] σ res := by
  refine cmv_body (own := RX4) (lv := [(0, .ref (ad 8)), (1, .int x1)]) (by decide) rfl (wX_addr _ _ _ _ _) (Nat.le_of_ble_eq_true rfl) rfl (fun p e s m args below meth c A C hr => ?_)
  unfold fX4_beginStep at h
  refine g_aload_n C dX4_beginStep_0 rfl 0 rfl 1 rfl ?_
  refine wgX4_9_8 C dX4_beginStep_1 4 rfl ?_
  refine g_bipush C (v := 7) dX4_beginStep_4 (by decide) 6 rfl ?_
  refine g_icmp_ge C 82 dX4_beginStep_6 (by decide) 9 rfl (fun c_1 => ?_) (fun c_1 => ?_)
  · have h := o_pos h c_1
    exact g_vret C hr dX4_beginStep_82 h
  · have h := o_neg h c_1
    refine g_aload_n C dX4_beginStep_9 rfl 0 rfl 10 rfl ?_
    refine g_dup C dX4_beginStep_10 rfl 11 rfl ?_
    refine wgX4_15_8 C dX4_beginStep_11 14 rfl ?_
    refine g_iload_n C dX4_beginStep_14 rfl 1 rfl 15 rfl ?_
    obtain ⟨j23, ej23, h⟩ := o_lt h
    have hj23 : ∀ (v_2 : Int32) (v_3 : Int32) (σ_4 : ST), j23 v_2 v_3 σ_4 = some res → G p l e (rmL 0) s m args below meth c (MQ below (Qv D (tyz cI cJ cB cZ) (wX ad cI cJ cB cZ) A res) args s 0 0 A) D (wX ad cI cJ cB cZ) A 2 σ_4 23 [(0, .ref (ad 8))] [.int v_2, .int v_3, .ref (ad 8)] := by
      intro v_2 v_3 σ_4 h
      rw [ej23] at h
      refine g_aload_n C dX4_beginStep_23 rfl 0 rfl 24 rfl ?_
      refine wgX4_9_8 C dX4_beginStep_24 27 rfl ?_
      refine g_ishl C dX4_beginStep_27 28 rfl ?_
      refine g_ior C dX4_beginStep_28 29 rfl ?_
      obtain ⟨σ_5, eσ_5, h⟩ := o_lt h
      refine wpX4_15_8 C eσ_5 dX4_beginStep_29 32 rfl ?_
      refine g_aload_n C dX4_beginStep_32 rfl 0 rfl 33 rfl ?_
      refine wgX4_26_8 C dX4_beginStep_33 36 rfl ?_
      refine g_aload_n C dX4_beginStep_36 rfl 0 rfl 37 rfl ?_
      refine wgX4_9_8 C dX4_beginStep_37 40 rfl ?_
      refine g_iconst C (v := 0) dX4_beginStep_40 (by decide) 41 rfl ?_
      obtain ⟨c_6, h⟩ := o_chk h
      obtain ⟨σ_7, eσ_7, h⟩ := o_lt h
      refine wtX_11 C eσ_7 c_6 dX4_beginStep_41 42 rfl ?_
      refine g_aload_n C dX4_beginStep_42 rfl 0 rfl 43 rfl ?_
      refine wgX4_29_8 C dX4_beginStep_43 46 rfl ?_
      refine g_aload_n C dX4_beginStep_46 rfl 0 rfl 47 rfl ?_
      refine wgX4_9_8 C dX4_beginStep_47 50 rfl ?_
      refine g_iconst C (v := 0) dX4_beginStep_50 (by decide) 51 rfl ?_
      obtain ⟨c_8, h⟩ := o_chk h
      obtain ⟨σ_9, eσ_9, h⟩ := o_lt h
      refine wtX_12 C eσ_9 c_8 dX4_beginStep_51 52 rfl ?_
      refine g_aload_n C dX4_beginStep_52 rfl 0 rfl 53 rfl ?_
      refine wgX4_32_8 C dX4_beginStep_53 56 rfl ?_
      refine g_aload_n C dX4_beginStep_56 rfl 0 rfl 57 rfl ?_
      refine wgX4_9_8 C dX4_beginStep_57 60 rfl ?_
      refine g_iconst C (v := 0) dX4_beginStep_60 (by decide) 61 rfl ?_
      obtain ⟨c_10, h⟩ := o_chk h
      obtain ⟨σ_11, eσ_11, h⟩ := o_lt h
      refine wtX_13 C eσ_11 c_10 dX4_beginStep_61 62 rfl ?_
      refine g_aload_n C dX4_beginStep_62 rfl 0 rfl 63 rfl ?_
      refine wgX4_35_8 C dX4_beginStep_63 66 rfl ?_
      refine g_aload_n C dX4_beginStep_66 rfl 0 rfl 67 rfl ?_
      refine wgX4_9_8 C dX4_beginStep_67 70 rfl ?_
      refine g_iconst C (v := 0) dX4_beginStep_70 (by decide) 71 rfl ?_
      obtain ⟨c_12, h⟩ := o_chk h
      obtain ⟨σ_13, eσ_13, h⟩ := o_lt h
      refine wtX_14 C eσ_13 c_12 dX4_beginStep_71 72 rfl ?_
      refine g_aload_n C dX4_beginStep_72 rfl 0 rfl 73 rfl ?_
      refine wgX4_38_8 C dX4_beginStep_73 76 rfl ?_
      refine g_aload_n C dX4_beginStep_76 rfl 0 rfl 77 rfl ?_
      refine wgX4_9_8 C dX4_beginStep_77 80 rfl ?_
      refine g_iconst C (v := 0) dX4_beginStep_80 (by decide) 81 rfl ?_
      obtain ⟨c_14, h⟩ := o_chk h
      obtain ⟨σ_15, eσ_15, h⟩ := o_lt h
      refine wtX_15 C eσ_15 c_14 dX4_beginStep_81 82 rfl ?_
      exact g_vret C hr dX4_beginStep_82 h
    refine g_if_eq C 22 dX4_beginStep_15 (by decide) 18 rfl (fun c_16 => ?_) (fun c_16 => ?_)
    · have h := o_pos h c_16
      refine g_iconst C (v := 0) dX4_beginStep_22 (by decide) 23 rfl ?_
      exact g_sub C [0] rfl (hj23 ((0 : Int32)) (gI σ 8) σ h)
    · have h := o_neg h c_16
      refine g_iconst C (v := 1) dX4_beginStep_18 (by decide) 19 rfl ?_
      refine g_goto C 23 dX4_beginStep_19 (by decide) ?_
      exact g_sub C [0] rfl (hj23 ((1 : Int32)) (gI σ 8) σ h)
end WK
/-! X2_accept private void accept(int); -/
def fX2_accept (x1 : Int32) (σ : ST) : Option (ST) :=
  (if (gI σ 2) = 0 then (if ix (gI σ 4) 401 then (lt (fun (x1_3 : Int32) (σ_4 : ST) => (if ix (gI σ_4 4) 401 then (lt (fun (v_6 : Int32) (σ_7 : ST) => (lt (sI σ_7 2 v_6) (fun σ_8 => (if ix (gI σ_8 4) 401 then (lt (sI σ_8 3 (ldA σ_8 5 (gI σ_8 4))) (fun σ_10 => (some σ_10))) else none)))) (fun j69 => (if (ldA σ_4 4 (gI σ_4 4)) = x1_3 then (j69 ((2 : Int32)) σ_4) else (j69 ((1 : Int32)) σ_4)))) else none)) (fun j47 => (if (ldA σ 4 (gI σ 4)) = x1 then (if ((400 : Int32)) ≤ (gI σ 4) then (j47 x1 σ) else (lt (sI σ 4 ((gI σ 4) + ((1 : Int32)))) (fun σ_14 => (some σ_14)))) else (j47 x1 σ)))) else none) else (some σ))
section WK
variable {p : Program} {l : Launch} {e : Env} {R : Room} {s : State} {m : MethodId} {args : Array Value} {below : List Frame} {meth : Method} {c : Code} {Q : State → Prop}
variable {D : va_G} {ad : Nat → Nat} {cI cJ cB cZ : ClassId} {A : Nat → Prop} {cc : ByteArray} {nL lev : Nat}
variable {σ : ST} {pc : Nat} {lv : List (Nat × Value)} {st : List Value}
set_option maxHeartbeats 4000000 in
set_option maxRecDepth 100000 in
theorem kX2_accept {l : Launch} {D : va_G} {ad : Nat → Nat} {cI cJ cB cZ : ClassId}  {x1 : Int32} {σ : ST} {res : ST} (h : fX2_accept x1 σ = some res) : CMv l D (tyz cI cJ cB cZ) (wX ad cI cJ cB cZ) 0 yX2_accept cX2_accept 2 none [.ref (ad 7), .int x1] σ res := by
  refine cmv_body (own := RX2) (lv := [(0, .ref (ad 7)), (1, .int x1)]) (by decide) rfl (wX_addr _ _ _ _ _) (Nat.le_of_ble_eq_true rfl) rfl (fun p e s m args below meth c A C hr => ?_)
  unfold fX2_accept at h
  refine g_aload_n C dX2_accept_0 rfl 0 rfl 1 rfl ?_
  refine wgX2_9_7 C dX2_accept_1 4 rfl ?_
  refine g_if_eq C 8 dX2_accept_4 (by decide) 7 rfl (fun c_1 => ?_) (fun c_1 => ?_)
  · have h := o_pos h c_1
    refine g_aload_n C dX2_accept_8 rfl 0 rfl 9 rfl ?_
    refine wgX2_18_7 C dX2_accept_9 12 rfl ?_
    refine wgX2_138_3 C dX2_accept_12 15 rfl ?_
    refine g_aload_n C dX2_accept_15 rfl 0 rfl 16 rfl ?_
    refine wgX2_31_7 C dX2_accept_16 19 rfl ?_
    obtain ⟨c_2, h⟩ := o_chk h
    refine wlX_4 C c_2 dX2_accept_19 20 rfl ?_
    refine g_iload_n C dX2_accept_20 rfl 1 rfl 21 rfl ?_
    obtain ⟨j47, ej47, h⟩ := o_lt h
    have hj47 : ∀ (x1_3 : Int32) (σ_4 : ST), j47 x1_3 σ_4 = some res → G p l e (rmL 0) s m args below meth c (MQ below (Qv D (tyz cI cJ cB cZ) (wX ad cI cJ cB cZ) A res) args s 0 0 A) D (wX ad cI cJ cB cZ) A 2 σ_4 47 [(0, .ref (ad 7)), (1, .int x1_3)] [] := by
      intro x1_3 σ_4 h
      rw [ej47] at h
      refine g_aload_n C dX2_accept_47 rfl 0 rfl 48 rfl ?_
      refine g_aload_n C dX2_accept_48 rfl 0 rfl 49 rfl ?_
      refine wgX2_18_7 C dX2_accept_49 52 rfl ?_
      refine wgX2_138_3 C dX2_accept_52 55 rfl ?_
      refine g_aload_n C dX2_accept_55 rfl 0 rfl 56 rfl ?_
      refine wgX2_31_7 C dX2_accept_56 59 rfl ?_
      obtain ⟨c_5, h⟩ := o_chk h
      refine wlX_4 C c_5 dX2_accept_59 60 rfl ?_
      refine g_iload_n C dX2_accept_60 rfl 1 rfl 61 rfl ?_
      obtain ⟨j69, ej69, h⟩ := o_lt h
      have hj69 : ∀ (v_6 : Int32) (σ_7 : ST), j69 v_6 σ_7 = some res → G p l e (rmL 0) s m args below meth c (MQ below (Qv D (tyz cI cJ cB cZ) (wX ad cI cJ cB cZ) A res) args s 0 0 A) D (wX ad cI cJ cB cZ) A 2 σ_7 69 [(0, .ref (ad 7))] [.int v_6, .ref (ad 7)] := by
        intro v_6 σ_7 h
        rw [ej69] at h
        obtain ⟨σ_8, eσ_8, h⟩ := o_lt h
        refine wpX2_9_7 C eσ_8 dX2_accept_69 72 rfl ?_
        refine g_aload_n C dX2_accept_72 rfl 0 rfl 73 rfl ?_
        refine g_aload_n C dX2_accept_73 rfl 0 rfl 74 rfl ?_
        refine wgX2_18_7 C dX2_accept_74 77 rfl ?_
        refine wgX2_141_3 C dX2_accept_77 80 rfl ?_
        refine g_aload_n C dX2_accept_80 rfl 0 rfl 81 rfl ?_
        refine wgX2_31_7 C dX2_accept_81 84 rfl ?_
        obtain ⟨c_9, h⟩ := o_chk h
        refine wlX_5 C c_9 dX2_accept_84 85 rfl ?_
        obtain ⟨σ_10, eσ_10, h⟩ := o_lt h
        refine wpX2_15_7 C eσ_10 dX2_accept_85 88 rfl ?_
        exact g_vret C hr dX2_accept_88 h
      refine g_icmp_ne C 68 dX2_accept_61 (by decide) 64 rfl (fun c_11 => ?_) (fun c_11 => ?_)
      · have h := o_neg h c_11
        refine g_iconst C (v := 1) dX2_accept_68 (by decide) 69 rfl ?_
        exact g_sub C [0] rfl (hj69 ((1 : Int32)) σ_4 h)
      · have h := o_pos h c_11
        refine g_iconst C (v := 2) dX2_accept_64 (by decide) 65 rfl ?_
        refine g_goto C 69 dX2_accept_65 (by decide) ?_
        exact g_sub C [0] rfl (hj69 ((2 : Int32)) σ_4 h)
    refine g_icmp_ne C 47 dX2_accept_21 (by decide) 24 rfl (fun c_12 => ?_) (fun c_12 => ?_)
    · have h := o_neg h c_12
      exact g_sub C [0, 1] rfl (hj47 x1 σ h)
    · have h := o_pos h c_12
      refine g_aload_n C dX2_accept_24 rfl 0 rfl 25 rfl ?_
      refine wgX2_31_7 C dX2_accept_25 28 rfl ?_
      refine g_sipush C (v := 400) dX2_accept_28 (by decide) 31 rfl ?_
      refine g_icmp_ge C 47 dX2_accept_31 (by decide) 34 rfl (fun c_13 => ?_) (fun c_13 => ?_)
      · have h := o_pos h c_13
        exact g_sub C [0, 1] rfl (hj47 x1 σ h)
      · have h := o_neg h c_13
        refine g_aload_n C dX2_accept_34 rfl 0 rfl 35 rfl ?_
        refine g_dup C dX2_accept_35 rfl 36 rfl ?_
        refine wgX2_31_7 C dX2_accept_36 39 rfl ?_
        refine g_iconst C (v := 1) dX2_accept_39 (by decide) 40 rfl ?_
        refine g_iadd C dX2_accept_40 41 rfl ?_
        obtain ⟨σ_14, eσ_14, h⟩ := o_lt h
        refine wpX2_31_7 C eσ_14 dX2_accept_41 44 rfl ?_
        refine g_goto C 88 dX2_accept_44 (by decide) ?_
        exact g_vret C hr dX2_accept_88 h
  · have h := o_neg h c_1
    exact g_vret C hr dX2_accept_7 h
end WK
/-! X4_tells boolean tells(long); -/
def fX4_tells_L2  : Nat → Int64 → Int32 → ST → Option (Int32 × ST)
  | 0, _, _, _ => none
  | n + 1, x1, x3, σ => (if (gI σ 7) ≤ x3 then (some ((0 : Int32), σ)) else (if ix x3 7 then (if (lg_cmp (ldB σ 9 x3) x1) = 0 then (some ((1 : Int32), σ)) else (lt (x3 + 1) (fun x3_5 => (fX4_tells_L2 n x1 x3_5 σ)))) else none))
def fX4_tells (n : Nat) (x1 : Int64) (σ : ST) : Option (Int32 × ST) :=
  (lt ((0 : Int32)) (fun x3_1 => (fX4_tells_L2 n x1 x3_1 σ)))
section WK
variable {p : Program} {l : Launch} {e : Env} {R : Room} {s : State} {m : MethodId} {args : Array Value} {below : List Frame} {meth : Method} {c : Code} {Q : State → Prop}
variable {D : va_G} {ad : Nat → Nat} {cI cJ cB cZ : ClassId} {A : Nat → Prop} {cc : ByteArray} {nL lev : Nat}
variable {σ : ST} {pc : Nat} {lv : List (Nat × Value)} {st : List Value}
set_option maxHeartbeats 4000000 in
set_option maxRecDepth 100000 in
theorem kX4_tells_L2 (C : Ctx p l e (rmL 0) s m args below meth c D (tyz cI cJ cB cZ) (wX ad cI cJ cB cZ) A cX4_tells 4 0 RX4) (hr : meth.sig.returnType = some .boolean) {res : Int32 × ST}   : ∀ (n : Nat) (x1 : Int64) (x3 : Int32) (σ : ST), fX4_tells_L2 n x1 x3 σ = some res → G p l e (rmL 0) s m args below meth c (MQ below (Qi D (tyz cI cJ cB cZ) (wX ad cI cJ cB cZ) A res) args s 0 0 A) D (wX ad cI cJ cB cZ) A 4 σ 2 [(0, .ref (ad 8)), (1, .long x1), (3, .int x3)] [] := by
  intro n
  induction n with
  | zero => intro x1 x3 σ h; have h : none = some res := h; cases h
  | succ n ih =>
    intro x1 x3 σ h
    rw [fX4_tells_L2] at h
    refine g_iload_n C dX4_tells_2 rfl 2 rfl 3 rfl ?_
    refine g_aload_n C dX4_tells_3 rfl 0 rfl 4 rfl ?_
    refine wgX4_9_8 C dX4_tells_4 7 rfl ?_
    refine g_icmp_ge C 29 dX4_tells_7 (by decide) 10 rfl (fun c_2 => ?_) (fun c_2 => ?_)
    · have h := o_pos h c_2
      refine g_iconst C (v := 0) dX4_tells_29 (by decide) 30 rfl ?_
      exact g_zret C hr (by decide) dX4_tells_30 h
    · have h := o_neg h c_2
      refine g_aload_n C dX4_tells_10 rfl 0 rfl 11 rfl ?_
      refine wgX4_18_8 C dX4_tells_11 14 rfl ?_
      refine g_iload_n C dX4_tells_14 rfl 2 rfl 15 rfl ?_
      obtain ⟨c_3, h⟩ := o_chk h
      refine wlX_9 C c_3 dX4_tells_15 16 rfl ?_
      refine g_lload_n C dX4_tells_16 rfl 1 rfl 17 rfl ?_
      refine g_lcmp C dX4_tells_17 18 rfl ?_
      refine g_if_ne C 23 dX4_tells_18 (by decide) 21 rfl (fun c_4 => ?_) (fun c_4 => ?_)
      · have h := o_neg h c_4
        obtain ⟨x3_5, ex3_5, h⟩ := o_lt h
        refine g_iinc C (lv' := [(3, .int x3_5), (0, .ref (ad 8)), (1, .long x1)]) ex3_5 dX4_tells_23 2 rfl (by decide) (by decide) rfl 26 rfl ?_
        refine g_goto C 2 dX4_tells_26 (by decide) ?_
        exact g_sub C [1, 2, 0] rfl (ih x1 x3_5 σ h)
      · have h := o_pos h c_4
        refine g_iconst C (v := 1) dX4_tells_21 (by decide) 22 rfl ?_
        exact g_zret C hr (by decide) dX4_tells_22 h
set_option maxHeartbeats 4000000 in
set_option maxRecDepth 100000 in
theorem kX4_tells {l : Launch} {D : va_G} {ad : Nat → Nat} {cI cJ cB cZ : ClassId}  {n : Nat} {x1 : Int64} {σ : ST} {res : Int32 × ST} (h : fX4_tells n x1 σ = some res) : CMi l D (tyz cI cJ cB cZ) (wX ad cI cJ cB cZ) 0 yX4_tells cX4_tells 4 (some .boolean) [.ref (ad 8), .long x1] σ res := by
  refine cmi_body (own := RX4) (lv := [(0, .ref (ad 8)), (1, .long x1)]) (by decide) rfl (wX_addr _ _ _ _ _) (Nat.le_of_ble_eq_true rfl) rfl (fun p e s m args below meth c A C hr => ?_)
  unfold fX4_tells at h
  refine g_iconst C (v := 0) dX4_tells_0 (by decide) 1 rfl ?_
  obtain ⟨x3_1, ex3_1, h⟩ := o_lt h
  refine g_istore_n C (lv' := [(3, .int x3_1), (0, .ref (ad 8)), (1, .long x1)]) ex3_1 dX4_tells_1 rfl (by decide) rfl 2 rfl ?_
  exact g_sub C [1, 2, 0] rfl (kX4_tells_L2 C hr  n x1 x3_1 σ h)
end WK
/-! X2_noteSense private void noteSense(int); -/
def fX2_noteSense (x1 : Int32) (σ : ST) : Option (ST) :=
  (if (gI σ 5) = 0 then (lt (sI σ 5 x1) (fun σ_2 => (if ix (gI σ_2 4) 401 then (lt (sI σ_2 6 (ldA σ_2 5 (gI σ_2 4))) (fun σ_4 => (some σ_4))) else none))) else (some σ))
section WK
variable {p : Program} {l : Launch} {e : Env} {R : Room} {s : State} {m : MethodId} {args : Array Value} {below : List Frame} {meth : Method} {c : Code} {Q : State → Prop}
variable {D : va_G} {ad : Nat → Nat} {cI cJ cB cZ : ClassId} {A : Nat → Prop} {cc : ByteArray} {nL lev : Nat}
variable {σ : ST} {pc : Nat} {lv : List (Nat × Value)} {st : List Value}
set_option maxHeartbeats 4000000 in
set_option maxRecDepth 100000 in
theorem kX2_noteSense {l : Launch} {D : va_G} {ad : Nat → Nat} {cI cJ cB cZ : ClassId}  {x1 : Int32} {σ : ST} {res : ST} (h : fX2_noteSense x1 σ = some res) : CMv l D (tyz cI cJ cB cZ) (wX ad cI cJ cB cZ) 0 yX2_noteSense cX2_noteSense 2 none [.ref (ad 7), .int x1] σ res := by
  refine cmv_body (own := RX2) (lv := [(0, .ref (ad 7)), (1, .int x1)]) (by decide) rfl (wX_addr _ _ _ _ _) (Nat.le_of_ble_eq_true rfl) rfl (fun p e s m args below meth c A C hr => ?_)
  unfold fX2_noteSense at h
  refine g_aload_n C dX2_noteSense_0 rfl 0 rfl 1 rfl ?_
  refine wgX2_34_7 C dX2_noteSense_1 4 rfl ?_
  refine g_if_ne C 28 dX2_noteSense_4 (by decide) 7 rfl (fun c_1 => ?_) (fun c_1 => ?_)
  · have h := o_neg h c_1
    exact g_vret C hr dX2_noteSense_28 h
  · have h := o_pos h c_1
    refine g_aload_n C dX2_noteSense_7 rfl 0 rfl 8 rfl ?_
    refine g_iload_n C dX2_noteSense_8 rfl 1 rfl 9 rfl ?_
    obtain ⟨σ_2, eσ_2, h⟩ := o_lt h
    refine wpX2_34_7 C eσ_2 dX2_noteSense_9 12 rfl ?_
    refine g_aload_n C dX2_noteSense_12 rfl 0 rfl 13 rfl ?_
    refine g_aload_n C dX2_noteSense_13 rfl 0 rfl 14 rfl ?_
    refine wgX2_18_7 C dX2_noteSense_14 17 rfl ?_
    refine wgX2_141_3 C dX2_noteSense_17 20 rfl ?_
    refine g_aload_n C dX2_noteSense_20 rfl 0 rfl 21 rfl ?_
    refine wgX2_31_7 C dX2_noteSense_21 24 rfl ?_
    obtain ⟨c_3, h⟩ := o_chk h
    refine wlX_5 C c_3 dX2_noteSense_24 25 rfl ?_
    obtain ⟨σ_4, eσ_4, h⟩ := o_lt h
    refine wpX2_37_7 C eσ_4 dX2_noteSense_25 28 rfl ?_
    exact g_vret C hr dX2_noteSense_28 h
end WK
/-! X2_acceptNewName private long acceptNewName(); -/
def fX2_acceptNewName (n : Nat)  (σ : ST) : Option (Int64 × ST) :=
  (if ix (gI σ 4) 401 then (lt (ldB σ 6 (gI σ 4)) (fun x1_2 => (Option.bind (fX2_peek σ) (fun q_3 => (lt (fun (x1_4 : Int64) (σ_5 : ST) => (Option.bind (fX2_accept ((256 : Int32)) σ_5) (fun q_6 => (some (x1_4, q_6))))) (fun j39 => (if q_3.1 = ((256 : Int32)) then (Option.bind (fX4_tells n x1_2 q_3.2) (fun q_8 => (if q_8.1 = 0 then (j39 x1_2 q_8.2) else (Option.bind (fX2_noteSense ((3 : Int32)) q_8.2) (fun q_10 => (j39 x1_2 q_10)))))) else (j39 x1_2 q_3.2)))))))) else none)
section WK
variable {p : Program} {l : Launch} {e : Env} {R : Room} {s : State} {m : MethodId} {args : Array Value} {below : List Frame} {meth : Method} {c : Code} {Q : State → Prop}
variable {D : va_G} {ad : Nat → Nat} {cI cJ cB cZ : ClassId} {A : Nat → Prop} {cc : ByteArray} {nL lev : Nat}
variable {σ : ST} {pc : Nat} {lv : List (Nat × Value)} {st : List Value}
set_option maxHeartbeats 4000000 in
set_option maxRecDepth 100000 in
theorem kX2_acceptNewName {l : Launch} {D : va_G} {ad : Nat → Nat} {cI cJ cB cZ : ClassId}  {n : Nat}  {σ : ST} {res : Int64 × ST} (h : fX2_acceptNewName n σ = some res) : CMl l D (tyz cI cJ cB cZ) (wX ad cI cJ cB cZ) 1 yX2_acceptNewName cX2_acceptNewName 3 (some .long) [.ref (ad 7)] σ res := by
  refine cml_body (own := RX2) (lv := [(0, .ref (ad 7))]) (by decide) rfl (wX_addr _ _ _ _ _) (Nat.le_of_ble_eq_true rfl) rfl (fun p e s m args below meth c A C hr => ?_)
  unfold fX2_acceptNewName at h
  refine g_aload_n C dX2_acceptNewName_0 rfl 0 rfl 1 rfl ?_
  refine wgX2_18_7 C dX2_acceptNewName_1 4 rfl ?_
  refine wgX2_122_3 C dX2_acceptNewName_4 7 rfl ?_
  refine g_aload_n C dX2_acceptNewName_7 rfl 0 rfl 8 rfl ?_
  refine wgX2_31_7 C dX2_acceptNewName_8 11 rfl ?_
  obtain ⟨c_1, h⟩ := o_chk h
  refine wlX_6 C c_1 dX2_acceptNewName_11 12 rfl ?_
  obtain ⟨x1_2, ex1_2, h⟩ := o_lt h
  refine g_lstore_n C (lv' := [(1, .long x1_2), (0, .ref (ad 7))]) ex1_2 dX2_acceptNewName_12 rfl (by decide) rfl 13 rfl ?_
  refine g_aload_n C dX2_acceptNewName_13 rfl 1 rfl 14 rfl ?_
  obtain ⟨q_3, hq_3, h⟩ := o_bind h
  refine wcX2_40_X_7 C (kX2_peek hq_3) (by decide) (Nat.le_of_ble_eq_true rfl) dX2_acceptNewName_14 17 rfl ?_
  refine g_sipush C (v := 256) dX2_acceptNewName_17 (by decide) 20 rfl ?_
  obtain ⟨j39, ej39, h⟩ := o_lt h
  have hj39 : ∀ (x1_4 : Int64) (σ_5 : ST), j39 x1_4 σ_5 = some res → G p l e (rmL 1) s m args below meth c (MQ below (Ql D (tyz cI cJ cB cZ) (wX ad cI cJ cB cZ) A res) args s 0 0 A) D (wX ad cI cJ cB cZ) A 3 σ_5 39 [(0, .ref (ad 7)), (1, .long x1_4)] [] := by
    intro x1_4 σ_5 h
    rw [ej39] at h
    refine g_aload_n C dX2_acceptNewName_39 rfl 0 rfl 40 rfl ?_
    refine g_sipush C (v := 256) dX2_acceptNewName_40 (by decide) 43 rfl ?_
    obtain ⟨q_6, hq_6, h⟩ := o_bind h
    refine wcX2_58_X_7 C (kX2_accept hq_6) (by decide) (Nat.le_of_ble_eq_true rfl) dX2_acceptNewName_43 46 rfl ?_
    refine g_lload_n C dX2_acceptNewName_46 rfl 1 rfl 47 rfl ?_
    exact g_lret C hr dX2_acceptNewName_47 h
  refine g_icmp_ne C 39 dX2_acceptNewName_20 (by decide) 23 rfl (fun c_7 => ?_) (fun c_7 => ?_)
  · have h := o_neg h c_7
    exact g_sub C [1, 0] rfl (hj39 x1_2 q_3.2 h)
  · have h := o_pos h c_7
    refine g_aload_n C dX2_acceptNewName_23 rfl 1 rfl 24 rfl ?_
    refine wgX2_22_7 C dX2_acceptNewName_24 27 rfl ?_
    refine g_lload_n C dX2_acceptNewName_27 rfl 0 rfl 28 rfl ?_
    obtain ⟨q_8, hq_8, h⟩ := o_bind h
    refine wcX2_134_X_8 C (kX4_tells hq_8) (by decide) (Nat.le_of_ble_eq_true rfl) dX2_acceptNewName_28 31 rfl ?_
    refine g_if_eq C 39 dX2_acceptNewName_31 (by decide) 34 rfl (fun c_9 => ?_) (fun c_9 => ?_)
    · have h := o_pos h c_9
      exact g_sub C [1, 0] rfl (hj39 x1_2 q_8.2 h)
    · have h := o_neg h c_9
      refine g_aload_n C dX2_acceptNewName_34 rfl 1 rfl 35 rfl ?_
      refine g_iconst C (v := 3) dX2_acceptNewName_35 (by decide) 36 rfl ?_
      obtain ⟨q_10, hq_10, h⟩ := o_bind h
      refine wcX2_131_X_7 C (kX2_noteSense hq_10) (by decide) (Nat.le_of_ble_eq_true rfl) dX2_acceptNewName_36 39 rfl ?_
      exact g_sub C [1, 0] rfl (hj39 x1_2 q_10 h)
end WK
/-! X2_acceptInt private int acceptInt(int, int); -/
def fX2_acceptInt (x1 : Int32) (x2 : Int32) (σ : ST) : Option (Int32 × ST) :=
  (if ix (gI σ 4) 401 then (lt (ldB σ 6 (gI σ 4)) (fun x3_2 => (lt (fun (x1_3 : Int32) (x3_4 : Int64) (v_5 : Int32) (σ_6 : ST) => (lt (v_5) (fun x5_7 => (Option.bind (fX2_peek σ_6) (fun q_8 => (lt (fun (x1_9 : Int32) (x3_10 : Int64) (x5_11 : Int32) (σ_12 : ST) => (Option.bind (fX2_accept ((257 : Int32)) σ_12) (fun q_13 => (if x5_11 = 0 then (some (x1_9, q_13)) else (some (x3_10.toInt32, q_13)))))) (fun j54 => (if q_8.1 = ((257 : Int32)) then (if x5_7 = 0 then (Option.bind (fX2_noteSense ((5 : Int32)) q_8.2) (fun q_17 => (j54 x1_3 x3_4 x5_7 q_17))) else (j54 x1_3 x3_4 x5_7 q_8.2)) else (j54 x1_3 x3_4 x5_7 q_8.2))))))))) (fun j32 => (lt (fun (x1_18 : Int32) (x3_19 : Int64) (σ_20 : ST) => (j32 x1_18 x3_19 ((0 : Int32)) σ_20)) (fun j31 => (if (lg_cmp x3_2 x1.toInt64) < 0 then (j31 x1 x3_2 σ) else (if 0 < (lg_cmp x3_2 x2.toInt64) then (j31 x1 x3_2 σ) else (j32 x1 x3_2 ((1 : Int32)) σ))))))))) else none)
section WK
variable {p : Program} {l : Launch} {e : Env} {R : Room} {s : State} {m : MethodId} {args : Array Value} {below : List Frame} {meth : Method} {c : Code} {Q : State → Prop}
variable {D : va_G} {ad : Nat → Nat} {cI cJ cB cZ : ClassId} {A : Nat → Prop} {cc : ByteArray} {nL lev : Nat}
variable {σ : ST} {pc : Nat} {lv : List (Nat × Value)} {st : List Value}
set_option maxHeartbeats 4000000 in
set_option maxRecDepth 100000 in
theorem kX2_acceptInt {l : Launch} {D : va_G} {ad : Nat → Nat} {cI cJ cB cZ : ClassId}  {x1 : Int32} {x2 : Int32} {σ : ST} {res : Int32 × ST} (h : fX2_acceptInt x1 x2 σ = some res) : CMi l D (tyz cI cJ cB cZ) (wX ad cI cJ cB cZ) 1 yX2_acceptInt cX2_acceptInt 6 (some .int) [.ref (ad 7), .int x1, .int x2] σ res := by
  refine cmi_body (own := RX2) (lv := [(0, .ref (ad 7)), (1, .int x1), (2, .int x2)]) (by decide) rfl (wX_addr _ _ _ _ _) (Nat.le_of_ble_eq_true rfl) rfl (fun p e s m args below meth c A C hr => ?_)
  unfold fX2_acceptInt at h
  refine g_aload_n C dX2_acceptInt_0 rfl 0 rfl 1 rfl ?_
  refine wgX2_18_7 C dX2_acceptInt_1 4 rfl ?_
  refine wgX2_122_3 C dX2_acceptInt_4 7 rfl ?_
  refine g_aload_n C dX2_acceptInt_7 rfl 0 rfl 8 rfl ?_
  refine wgX2_31_7 C dX2_acceptInt_8 11 rfl ?_
  obtain ⟨c_1, h⟩ := o_chk h
  refine wlX_6 C c_1 dX2_acceptInt_11 12 rfl ?_
  obtain ⟨x3_2, ex3_2, h⟩ := o_lt h
  refine g_lstore_n C (lv' := [(3, .long x3_2), (0, .ref (ad 7)), (1, .int x1), (2, .int x2)]) ex3_2 dX2_acceptInt_12 rfl (by decide) rfl 13 rfl ?_
  refine g_lload_n C dX2_acceptInt_13 rfl 0 rfl 14 rfl ?_
  refine g_iload_n C dX2_acceptInt_14 rfl 2 rfl 15 rfl ?_
  refine g_i2l C dX2_acceptInt_15 16 rfl ?_
  refine g_lcmp C dX2_acceptInt_16 17 rfl ?_
  obtain ⟨j32, ej32, h⟩ := o_lt h
  have hj32 : ∀ (x1_3 : Int32) (x3_4 : Int64) (v_5 : Int32) (σ_6 : ST), j32 x1_3 x3_4 v_5 σ_6 = some res → G p l e (rmL 1) s m args below meth c (MQ below (Qi D (tyz cI cJ cB cZ) (wX ad cI cJ cB cZ) A res) args s 0 0 A) D (wX ad cI cJ cB cZ) A 6 σ_6 32 [(0, .ref (ad 7)), (1, .int x1_3), (3, .long x3_4)] [.int v_5] := by
    intro x1_3 x3_4 v_5 σ_6 h
    rw [ej32] at h
    obtain ⟨x5_7, ex5_7, h⟩ := o_lt h
    refine g_istore C (lv' := [(5, .int x5_7), (0, .ref (ad 7)), (1, .int x1_3), (3, .long x3_4)]) ex5_7 dX2_acceptInt_32 (by decide) rfl 34 rfl ?_
    refine g_aload_n C dX2_acceptInt_34 rfl 1 rfl 35 rfl ?_
    obtain ⟨q_8, hq_8, h⟩ := o_bind h
    refine wcX2_40_X_7 C (kX2_peek hq_8) (by decide) (Nat.le_of_ble_eq_true rfl) dX2_acceptInt_35 38 rfl ?_
    refine g_sipush C (v := 257) dX2_acceptInt_38 (by decide) 41 rfl ?_
    obtain ⟨j54, ej54, h⟩ := o_lt h
    have hj54 : ∀ (x1_9 : Int32) (x3_10 : Int64) (x5_11 : Int32) (σ_12 : ST), j54 x1_9 x3_10 x5_11 σ_12 = some res → G p l e (rmL 1) s m args below meth c (MQ below (Qi D (tyz cI cJ cB cZ) (wX ad cI cJ cB cZ) A res) args s 0 0 A) D (wX ad cI cJ cB cZ) A 6 σ_12 54 [(0, .ref (ad 7)), (1, .int x1_9), (3, .long x3_10), (5, .int x5_11)] [] := by
      intro x1_9 x3_10 x5_11 σ_12 h
      rw [ej54] at h
      refine g_aload_n C dX2_acceptInt_54 rfl 0 rfl 55 rfl ?_
      refine g_sipush C (v := 257) dX2_acceptInt_55 (by decide) 58 rfl ?_
      obtain ⟨q_13, hq_13, h⟩ := o_bind h
      refine wcX2_58_X_7 C (kX2_accept hq_13) (by decide) (Nat.le_of_ble_eq_true rfl) dX2_acceptInt_58 61 rfl ?_
      refine g_iload C dX2_acceptInt_61 3 rfl 63 rfl ?_
      refine g_if_eq C 71 dX2_acceptInt_63 (by decide) 66 rfl (fun c_14 => ?_) (fun c_14 => ?_)
      · have h := o_pos h c_14
        refine g_iload_n C dX2_acceptInt_71 rfl 1 rfl 72 rfl ?_
        exact g_iret C hr dX2_acceptInt_72 h
      · have h := o_neg h c_14
        refine g_lload_n C dX2_acceptInt_66 rfl 2 rfl 67 rfl ?_
        refine g_l2i C dX2_acceptInt_67 68 rfl ?_
        refine g_goto C 72 dX2_acceptInt_68 (by decide) ?_
        exact g_iret C hr dX2_acceptInt_72 h
    refine g_icmp_ne C 54 dX2_acceptInt_41 (by decide) 44 rfl (fun c_15 => ?_) (fun c_15 => ?_)
    · have h := o_neg h c_15
      exact g_sub C [1, 2, 3, 0] rfl (hj54 x1_3 x3_4 x5_7 q_8.2 h)
    · have h := o_pos h c_15
      refine g_iload C dX2_acceptInt_44 0 rfl 46 rfl ?_
      refine g_if_ne C 54 dX2_acceptInt_46 (by decide) 49 rfl (fun c_16 => ?_) (fun c_16 => ?_)
      · have h := o_neg h c_16
        exact g_sub C [1, 2, 3, 0] rfl (hj54 x1_3 x3_4 x5_7 q_8.2 h)
      · have h := o_pos h c_16
        refine g_aload_n C dX2_acceptInt_49 rfl 1 rfl 50 rfl ?_
        refine g_iconst C (v := 5) dX2_acceptInt_50 (by decide) 51 rfl ?_
        obtain ⟨q_17, hq_17, h⟩ := o_bind h
        refine wcX2_131_X_7 C (kX2_noteSense hq_17) (by decide) (Nat.le_of_ble_eq_true rfl) dX2_acceptInt_51 54 rfl ?_
        exact g_sub C [1, 2, 3, 0] rfl (hj54 x1_3 x3_4 x5_7 q_17 h)
  obtain ⟨j31, ej31, h⟩ := o_lt h
  have hj31 : ∀ (x1_18 : Int32) (x3_19 : Int64) (σ_20 : ST), j31 x1_18 x3_19 σ_20 = some res → G p l e (rmL 1) s m args below meth c (MQ below (Qi D (tyz cI cJ cB cZ) (wX ad cI cJ cB cZ) A res) args s 0 0 A) D (wX ad cI cJ cB cZ) A 6 σ_20 31 [(0, .ref (ad 7)), (1, .int x1_18), (3, .long x3_19)] [] := by
    intro x1_18 x3_19 σ_20 h
    rw [ej31] at h
    refine g_iconst C (v := 0) dX2_acceptInt_31 (by decide) 32 rfl ?_
    exact g_sub C [0, 1, 2] rfl (hj32 x1_18 x3_19 ((0 : Int32)) σ_20 h)
  refine g_if_lt C 31 dX2_acceptInt_17 (by decide) 20 rfl (fun c_21 => ?_) (fun c_21 => ?_)
  · have h := o_pos h c_21
    exact g_sub C [1, 2, 0] rfl (hj31 x1 x3_2 σ h)
  · have h := o_neg h c_21
    refine g_lload_n C dX2_acceptInt_20 rfl 0 rfl 21 rfl ?_
    refine g_iload_n C dX2_acceptInt_21 rfl 3 rfl 22 rfl ?_
    refine g_i2l C dX2_acceptInt_22 23 rfl ?_
    refine g_lcmp C dX2_acceptInt_23 24 rfl ?_
    refine g_if_gt C 31 dX2_acceptInt_24 (by decide) 27 rfl (fun c_22 => ?_) (fun c_22 => ?_)
    · have h := o_pos h c_22
      exact g_sub C [1, 2, 0] rfl (hj31 x1 x3_2 σ h)
    · have h := o_neg h c_22
      refine g_iconst C (v := 1) dX2_acceptInt_27 (by decide) 28 rfl ?_
      refine g_goto C 32 dX2_acceptInt_28 (by decide) ?_
      exact g_sub C [1, 2, 0] rfl (hj32 x1 x3_2 ((1 : Int32)) σ h)
end WK
/-! X2_parseHead private void parseHead(int, boolean); -/
def fX2_parseHead (n : Nat) (x1 : Int32) (x2 : Int32) (σ : ST) : Option (ST) :=
  (Option.bind (fX10_isBelow x1 ((7 : Int32)) σ) (fun q_1 => (if q_1.1 = 0 then (some q_1.2) else (Option.bind (fX2_acceptNewName n q_1.2) (fun q_3 => (if ix x1 7 then (lt (stB q_3.2 9 x1 q_3.1) (fun σ_5 => (Option.bind (fX2_accept ((262 : Int32)) σ_5) (fun q_6 => (Option.bind (fX2_acceptInt ((1 : Int32)) ((20 : Int32)) q_6) (fun q_7 => (if ix x1 7 then (lt (stA q_7.2 10 x1 q_7.1) (fun σ_9 => (if x2 = 0 then (some σ_9) else (Option.bind (fX2_accept ((263 : Int32)) σ_9) (fun q_11 => (Option.bind (fX2_acceptInt ((0 : Int32)) ((399 : Int32)) q_11) (fun q_12 => (if ix x1 7 then (lt (stA q_12.2 11 x1 q_12.1) (fun σ_14 => (Option.bind (fX2_accept ((264 : Int32)) σ_14) (fun q_15 => (Option.bind (fX2_acceptInt ((0 : Int32)) ((100 : Int32)) q_15) (fun q_16 => (if ix x1 7 then (lt (stA q_16.2 12 x1 q_16.1) (fun σ_18 => (some σ_18))) else none))))))) else none)))))))) else none))))))) else none))))))
section WK
variable {p : Program} {l : Launch} {e : Env} {R : Room} {s : State} {m : MethodId} {args : Array Value} {below : List Frame} {meth : Method} {c : Code} {Q : State → Prop}
variable {D : va_G} {ad : Nat → Nat} {cI cJ cB cZ : ClassId} {A : Nat → Prop} {cc : ByteArray} {nL lev : Nat}
variable {σ : ST} {pc : Nat} {lv : List (Nat × Value)} {st : List Value}
set_option maxHeartbeats 4000000 in
set_option maxRecDepth 100000 in
theorem kX2_parseHead {l : Launch} {D : va_G} {ad : Nat → Nat} {cI cJ cB cZ : ClassId}  {n : Nat} {x1 : Int32} {x2 : Int32} {σ : ST} {res : ST} (h : fX2_parseHead n x1 x2 σ = some res) : CMv l D (tyz cI cJ cB cZ) (wX ad cI cJ cB cZ) 2 yX2_parseHead cX2_parseHead 3 none [.ref (ad 7), .int x1, .int x2] σ res := by
  refine cmv_body (own := RX2) (lv := [(0, .ref (ad 7)), (1, .int x1), (2, .int x2)]) (by decide) rfl (wX_addr _ _ _ _ _) (Nat.le_of_ble_eq_true rfl) rfl (fun p e s m args below meth c A C hr => ?_)
  unfold fX2_parseHead at h
  refine g_iload_n C dX2_parseHead_0 rfl 1 rfl 1 rfl ?_
  refine g_bipush C (v := 7) dX2_parseHead_1 (by decide) 3 rfl ?_
  obtain ⟨q_1, hq_1, h⟩ := o_bind h
  refine wcX2_71_X C (kX10_isBelow hq_1) (by decide) (Nat.le_of_ble_eq_true rfl) dX2_parseHead_3 6 rfl ?_
  refine g_if_ne C 10 dX2_parseHead_6 (by decide) 9 rfl (fun c_2 => ?_) (fun c_2 => ?_)
  · have h := o_neg h c_2
    refine g_aload_n C dX2_parseHead_10 rfl 0 rfl 11 rfl ?_
    refine wgX2_22_7 C dX2_parseHead_11 14 rfl ?_
    refine wgX2_75_8 C dX2_parseHead_14 17 rfl ?_
    refine g_iload_n C dX2_parseHead_17 rfl 1 rfl 18 rfl ?_
    refine g_aload_n C dX2_parseHead_18 rfl 0 rfl 19 rfl ?_
    obtain ⟨q_3, hq_3, h⟩ := o_bind h
    refine wcX2_79_X_7 C (kX2_acceptNewName hq_3) (by decide) (Nat.le_of_ble_eq_true rfl) dX2_parseHead_19 22 rfl ?_
    obtain ⟨c_4, h⟩ := o_chk h
    obtain ⟨σ_5, eσ_5, h⟩ := o_lt h
    refine wtX_9 C eσ_5 c_4 dX2_parseHead_22 23 rfl ?_
    refine g_aload_n C dX2_parseHead_23 rfl 0 rfl 24 rfl ?_
    refine g_sipush C (v := 262) dX2_parseHead_24 (by decide) 27 rfl ?_
    obtain ⟨q_6, hq_6, h⟩ := o_bind h
    refine wcX2_58_X_7 C (kX2_accept hq_6) (by decide) (Nat.le_of_ble_eq_true rfl) dX2_parseHead_27 30 rfl ?_
    refine g_aload_n C dX2_parseHead_30 rfl 0 rfl 31 rfl ?_
    refine wgX2_22_7 C dX2_parseHead_31 34 rfl ?_
    refine wgX2_83_8 C dX2_parseHead_34 37 rfl ?_
    refine g_iload_n C dX2_parseHead_37 rfl 1 rfl 38 rfl ?_
    refine g_aload_n C dX2_parseHead_38 rfl 0 rfl 39 rfl ?_
    refine g_iconst C (v := 1) dX2_parseHead_39 (by decide) 40 rfl ?_
    refine g_bipush C (v := 20) dX2_parseHead_40 (by decide) 42 rfl ?_
    obtain ⟨q_7, hq_7, h⟩ := o_bind h
    refine wcX2_87_X_7 C (kX2_acceptInt hq_7) (by decide) (Nat.le_of_ble_eq_true rfl) dX2_parseHead_42 45 rfl ?_
    obtain ⟨c_8, h⟩ := o_chk h
    obtain ⟨σ_9, eσ_9, h⟩ := o_lt h
    refine wtX_10 C eσ_9 c_8 dX2_parseHead_45 46 rfl ?_
    refine g_iload_n C dX2_parseHead_46 rfl 2 rfl 47 rfl ?_
    refine g_if_eq C 97 dX2_parseHead_47 (by decide) 50 rfl (fun c_10 => ?_) (fun c_10 => ?_)
    · have h := o_pos h c_10
      exact g_vret C hr dX2_parseHead_97 h
    · have h := o_neg h c_10
      refine g_aload_n C dX2_parseHead_50 rfl 0 rfl 51 rfl ?_
      refine g_sipush C (v := 263) dX2_parseHead_51 (by decide) 54 rfl ?_
      obtain ⟨q_11, hq_11, h⟩ := o_bind h
      refine wcX2_58_X_7 C (kX2_accept hq_11) (by decide) (Nat.le_of_ble_eq_true rfl) dX2_parseHead_54 57 rfl ?_
      refine g_aload_n C dX2_parseHead_57 rfl 0 rfl 58 rfl ?_
      refine wgX2_22_7 C dX2_parseHead_58 61 rfl ?_
      refine wgX2_91_8 C dX2_parseHead_61 64 rfl ?_
      refine g_iload_n C dX2_parseHead_64 rfl 1 rfl 65 rfl ?_
      refine g_aload_n C dX2_parseHead_65 rfl 0 rfl 66 rfl ?_
      refine g_iconst C (v := 0) dX2_parseHead_66 (by decide) 67 rfl ?_
      refine g_sipush C (v := 399) dX2_parseHead_67 (by decide) 70 rfl ?_
      obtain ⟨q_12, hq_12, h⟩ := o_bind h
      refine wcX2_87_X_7 C (kX2_acceptInt hq_12) (by decide) (Nat.le_of_ble_eq_true rfl) dX2_parseHead_70 73 rfl ?_
      obtain ⟨c_13, h⟩ := o_chk h
      obtain ⟨σ_14, eσ_14, h⟩ := o_lt h
      refine wtX_11 C eσ_14 c_13 dX2_parseHead_73 74 rfl ?_
      refine g_aload_n C dX2_parseHead_74 rfl 0 rfl 75 rfl ?_
      refine g_sipush C (v := 264) dX2_parseHead_75 (by decide) 78 rfl ?_
      obtain ⟨q_15, hq_15, h⟩ := o_bind h
      refine wcX2_58_X_7 C (kX2_accept hq_15) (by decide) (Nat.le_of_ble_eq_true rfl) dX2_parseHead_78 81 rfl ?_
      refine g_aload_n C dX2_parseHead_81 rfl 0 rfl 82 rfl ?_
      refine wgX2_22_7 C dX2_parseHead_82 85 rfl ?_
      refine wgX2_94_8 C dX2_parseHead_85 88 rfl ?_
      refine g_iload_n C dX2_parseHead_88 rfl 1 rfl 89 rfl ?_
      refine g_aload_n C dX2_parseHead_89 rfl 0 rfl 90 rfl ?_
      refine g_iconst C (v := 0) dX2_parseHead_90 (by decide) 91 rfl ?_
      refine g_bipush C (v := 100) dX2_parseHead_91 (by decide) 93 rfl ?_
      obtain ⟨q_16, hq_16, h⟩ := o_bind h
      refine wcX2_87_X_7 C (kX2_acceptInt hq_16) (by decide) (Nat.le_of_ble_eq_true rfl) dX2_parseHead_93 96 rfl ?_
      obtain ⟨c_17, h⟩ := o_chk h
      obtain ⟨σ_18, eσ_18, h⟩ := o_lt h
      refine wtX_12 C eσ_18 c_17 dX2_parseHead_96 97 rfl ?_
      exact g_vret C hr dX2_parseHead_97 h
  · have h := o_pos h c_2
    exact g_vret C hr dX2_parseHead_9 h
end WK
/-! X2_fail private void fail(int); -/
def fX2_fail (x1 : Int32) (σ : ST) : Option (ST) :=
  (if (gI σ 2) = 0 then (lt (sI σ 2 x1) (fun σ_2 => (if ix (gI σ_2 4) 401 then (lt (sI σ_2 3 (ldA σ_2 5 (gI σ_2 4))) (fun σ_4 => (some σ_4))) else none))) else (some σ))
section WK
variable {p : Program} {l : Launch} {e : Env} {R : Room} {s : State} {m : MethodId} {args : Array Value} {below : List Frame} {meth : Method} {c : Code} {Q : State → Prop}
variable {D : va_G} {ad : Nat → Nat} {cI cJ cB cZ : ClassId} {A : Nat → Prop} {cc : ByteArray} {nL lev : Nat}
variable {σ : ST} {pc : Nat} {lv : List (Nat × Value)} {st : List Value}
set_option maxHeartbeats 4000000 in
set_option maxRecDepth 100000 in
theorem kX2_fail {l : Launch} {D : va_G} {ad : Nat → Nat} {cI cJ cB cZ : ClassId}  {x1 : Int32} {σ : ST} {res : ST} (h : fX2_fail x1 σ = some res) : CMv l D (tyz cI cJ cB cZ) (wX ad cI cJ cB cZ) 0 yX2_fail cX2_fail 2 none [.ref (ad 7), .int x1] σ res := by
  refine cmv_body (own := RX2) (lv := [(0, .ref (ad 7)), (1, .int x1)]) (by decide) rfl (wX_addr _ _ _ _ _) (Nat.le_of_ble_eq_true rfl) rfl (fun p e s m args below meth c A C hr => ?_)
  unfold fX2_fail at h
  refine g_aload_n C dX2_fail_0 rfl 0 rfl 1 rfl ?_
  refine wgX2_9_7 C dX2_fail_1 4 rfl ?_
  refine g_if_ne C 28 dX2_fail_4 (by decide) 7 rfl (fun c_1 => ?_) (fun c_1 => ?_)
  · have h := o_neg h c_1
    exact g_vret C hr dX2_fail_28 h
  · have h := o_pos h c_1
    refine g_aload_n C dX2_fail_7 rfl 0 rfl 8 rfl ?_
    refine g_iload_n C dX2_fail_8 rfl 1 rfl 9 rfl ?_
    obtain ⟨σ_2, eσ_2, h⟩ := o_lt h
    refine wpX2_9_7 C eσ_2 dX2_fail_9 12 rfl ?_
    refine g_aload_n C dX2_fail_12 rfl 0 rfl 13 rfl ?_
    refine g_aload_n C dX2_fail_13 rfl 0 rfl 14 rfl ?_
    refine wgX2_18_7 C dX2_fail_14 17 rfl ?_
    refine wgX2_141_3 C dX2_fail_17 20 rfl ?_
    refine g_aload_n C dX2_fail_20 rfl 0 rfl 21 rfl ?_
    refine wgX2_31_7 C dX2_fail_21 24 rfl ?_
    obtain ⟨c_3, h⟩ := o_chk h
    refine wlX_5 C c_3 dX2_fail_24 25 rfl ?_
    obtain ⟨σ_4, eσ_4, h⟩ := o_lt h
    refine wpX2_15_7 C eσ_4 dX2_fail_25 28 rfl ?_
    exact g_vret C hr dX2_fail_28 h
end WK
/-! X2_acceptOpening private void acceptOpening(int); -/
def fX2_acceptOpening (x1 : Int32) (σ : ST) : Option (ST) :=
  (Option.bind (fX2_peek σ) (fun q_1 => (lt (fun (σ_2 : ST) => (Option.bind (fX2_accept ((40 : Int32)) σ_2) (fun q_3 => (some q_3)))) (fun j20 => (if q_1.1 = ((40 : Int32)) then (if x1 < ((6 : Int32)) then (j20 q_1.2) else (Option.bind (fX2_fail ((2 : Int32)) q_1.2) (fun q_6 => (j20 q_6)))) else (j20 q_1.2))))))
section WK
variable {p : Program} {l : Launch} {e : Env} {R : Room} {s : State} {m : MethodId} {args : Array Value} {below : List Frame} {meth : Method} {c : Code} {Q : State → Prop}
variable {D : va_G} {ad : Nat → Nat} {cI cJ cB cZ : ClassId} {A : Nat → Prop} {cc : ByteArray} {nL lev : Nat}
variable {σ : ST} {pc : Nat} {lv : List (Nat × Value)} {st : List Value}
set_option maxHeartbeats 4000000 in
set_option maxRecDepth 100000 in
theorem kX2_acceptOpening {l : Launch} {D : va_G} {ad : Nat → Nat} {cI cJ cB cZ : ClassId}  {x1 : Int32} {σ : ST} {res : ST} (h : fX2_acceptOpening x1 σ = some res) : CMv l D (tyz cI cJ cB cZ) (wX ad cI cJ cB cZ) 1 yX2_acceptOpening cX2_acceptOpening 2 none [.ref (ad 7), .int x1] σ res := by
  refine cmv_body (own := RX2) (lv := [(0, .ref (ad 7)), (1, .int x1)]) (by decide) rfl (wX_addr _ _ _ _ _) (Nat.le_of_ble_eq_true rfl) rfl (fun p e s m args below meth c A C hr => ?_)
  unfold fX2_acceptOpening at h
  refine g_aload_n C dX2_acceptOpening_0 rfl 0 rfl 1 rfl ?_
  obtain ⟨q_1, hq_1, h⟩ := o_bind h
  refine wcX2_40_X_7 C (kX2_peek hq_1) (by decide) (Nat.le_of_ble_eq_true rfl) dX2_acceptOpening_1 4 rfl ?_
  refine g_bipush C (v := 40) dX2_acceptOpening_4 (by decide) 6 rfl ?_
  obtain ⟨j20, ej20, h⟩ := o_lt h
  have hj20 : ∀ (σ_2 : ST), j20 σ_2 = some res → G p l e (rmL 1) s m args below meth c (MQ below (Qv D (tyz cI cJ cB cZ) (wX ad cI cJ cB cZ) A res) args s 0 0 A) D (wX ad cI cJ cB cZ) A 2 σ_2 20 [(0, .ref (ad 7))] [] := by
    intro σ_2 h
    rw [ej20] at h
    refine g_aload_n C dX2_acceptOpening_20 rfl 0 rfl 21 rfl ?_
    refine g_bipush C (v := 40) dX2_acceptOpening_21 (by decide) 23 rfl ?_
    obtain ⟨q_3, hq_3, h⟩ := o_bind h
    refine wcX2_58_X_7 C (kX2_accept hq_3) (by decide) (Nat.le_of_ble_eq_true rfl) dX2_acceptOpening_23 26 rfl ?_
    exact g_vret C hr dX2_acceptOpening_26 h
  refine g_icmp_ne C 20 dX2_acceptOpening_6 (by decide) 9 rfl (fun c_4 => ?_) (fun c_4 => ?_)
  · have h := o_neg h c_4
    exact g_sub C [0] rfl (hj20 q_1.2 h)
  · have h := o_pos h c_4
    refine g_iload_n C dX2_acceptOpening_9 rfl 1 rfl 10 rfl ?_
    refine g_bipush C (v := 6) dX2_acceptOpening_10 (by decide) 12 rfl ?_
    refine g_icmp_lt C 20 dX2_acceptOpening_12 (by decide) 15 rfl (fun c_5 => ?_) (fun c_5 => ?_)
    · have h := o_pos h c_5
      exact g_sub C [0] rfl (hj20 q_1.2 h)
    · have h := o_neg h c_5
      refine g_aload_n C dX2_acceptOpening_15 rfl 0 rfl 16 rfl ?_
      refine g_iconst C (v := 2) dX2_acceptOpening_16 (by decide) 17 rfl ?_
      obtain ⟨q_6, hq_6, h⟩ := o_bind h
      refine wcX2_47_X_7 C (kX2_fail hq_6) (by decide) (Nat.le_of_ble_eq_true rfl) dX2_acceptOpening_17 20 rfl ?_
      exact g_sub C [0] rfl (hj20 q_6 h)
end WK
/-! X4_addCode void addCode(int, int); -/
def fX4_addCode (x1 : Int32) (x2 : Int32) (σ : ST) : Option (ST) :=
  (if ((400 : Int32)) ≤ (gI σ 9) then (some σ) else (if ix (gI σ 9) 400 then (lt (stA σ 17 (gI σ 9) x1) (fun σ_3 => (if ix (gI σ_3 9) 400 then (lt (stA σ_3 18 (gI σ_3 9) x2) (fun σ_5 => (lt (sI σ_5 9 ((gI σ_5 9) + ((1 : Int32)))) (fun σ_6 => (some σ_6))))) else none))) else none))
section WK
variable {p : Program} {l : Launch} {e : Env} {R : Room} {s : State} {m : MethodId} {args : Array Value} {below : List Frame} {meth : Method} {c : Code} {Q : State → Prop}
variable {D : va_G} {ad : Nat → Nat} {cI cJ cB cZ : ClassId} {A : Nat → Prop} {cc : ByteArray} {nL lev : Nat}
variable {σ : ST} {pc : Nat} {lv : List (Nat × Value)} {st : List Value}
set_option maxHeartbeats 4000000 in
set_option maxRecDepth 100000 in
theorem kX4_addCode {l : Launch} {D : va_G} {ad : Nat → Nat} {cI cJ cB cZ : ClassId}  {x1 : Int32} {x2 : Int32} {σ : ST} {res : ST} (h : fX4_addCode x1 x2 σ = some res) : CMv l D (tyz cI cJ cB cZ) (wX ad cI cJ cB cZ) 0 yX4_addCode cX4_addCode 3 none [.ref (ad 8), .int x1, .int x2] σ res := by
  refine cmv_body (own := RX4) (lv := [(0, .ref (ad 8)), (1, .int x1), (2, .int x2)]) (by decide) rfl (wX_addr _ _ _ _ _) (Nat.le_of_ble_eq_true rfl) rfl (fun p e s m args below meth c A C hr => ?_)
  unfold fX4_addCode at h
  refine g_aload_n C dX4_addCode_0 rfl 0 rfl 1 rfl ?_
  refine wgX4_50_8 C dX4_addCode_1 4 rfl ?_
  refine g_sipush C (v := 400) dX4_addCode_4 (by decide) 7 rfl ?_
  refine g_icmp_ge C 40 dX4_addCode_7 (by decide) 10 rfl (fun c_1 => ?_) (fun c_1 => ?_)
  · have h := o_pos h c_1
    exact g_vret C hr dX4_addCode_40 h
  · have h := o_neg h c_1
    refine g_aload_n C dX4_addCode_10 rfl 0 rfl 11 rfl ?_
    refine wgX4_44_8 C dX4_addCode_11 14 rfl ?_
    refine g_aload_n C dX4_addCode_14 rfl 0 rfl 15 rfl ?_
    refine wgX4_50_8 C dX4_addCode_15 18 rfl ?_
    refine g_iload_n C dX4_addCode_18 rfl 1 rfl 19 rfl ?_
    obtain ⟨c_2, h⟩ := o_chk h
    obtain ⟨σ_3, eσ_3, h⟩ := o_lt h
    refine wtX_17 C eσ_3 c_2 dX4_addCode_19 20 rfl ?_
    refine g_aload_n C dX4_addCode_20 rfl 0 rfl 21 rfl ?_
    refine wgX4_47_8 C dX4_addCode_21 24 rfl ?_
    refine g_aload_n C dX4_addCode_24 rfl 0 rfl 25 rfl ?_
    refine wgX4_50_8 C dX4_addCode_25 28 rfl ?_
    refine g_iload_n C dX4_addCode_28 rfl 2 rfl 29 rfl ?_
    obtain ⟨c_4, h⟩ := o_chk h
    obtain ⟨σ_5, eσ_5, h⟩ := o_lt h
    refine wtX_18 C eσ_5 c_4 dX4_addCode_29 30 rfl ?_
    refine g_aload_n C dX4_addCode_30 rfl 0 rfl 31 rfl ?_
    refine g_dup C dX4_addCode_31 rfl 32 rfl ?_
    refine wgX4_50_8 C dX4_addCode_32 35 rfl ?_
    refine g_iconst C (v := 1) dX4_addCode_35 (by decide) 36 rfl ?_
    refine g_iadd C dX4_addCode_36 37 rfl ?_
    obtain ⟨σ_6, eσ_6, h⟩ := o_lt h
    refine wpX4_50_8 C eσ_6 dX4_addCode_37 40 rfl ?_
    exact g_vret C hr dX4_addCode_40 h
end WK
/-! X4_addTable void addTable(int, int); -/
def fX4_addTable (x1 : Int32) (x2 : Int32) (σ : ST) : Option (ST) :=
  (if ((7 : Int32)) ≤ (gI σ 7) then (some σ) else (if ix (gI σ 7) 7 then (if ix (gI σ 7) 7 then (lt (stA σ 13 (gI σ 7) ((ldA σ 13 (gI σ 7)) ||| (((1 : Int32)) <<< (x2 &&& 31)))) (fun σ_4 => (if ix (gI σ_4 7) 7 then (if ix (gI σ_4 7) 7 then (lt (stA σ_4 15 (gI σ_4 7) ((ldA σ_4 15 (gI σ_4 7)) ||| (((1 : Int32)) <<< (x2 &&& 31)))) (fun σ_7 => (Option.bind (fX4_addCode x1 x2 σ_7) (fun q_8 => (some q_8))))) else none) else none))) else none) else none))
section WK
variable {p : Program} {l : Launch} {e : Env} {R : Room} {s : State} {m : MethodId} {args : Array Value} {below : List Frame} {meth : Method} {c : Code} {Q : State → Prop}
variable {D : va_G} {ad : Nat → Nat} {cI cJ cB cZ : ClassId} {A : Nat → Prop} {cc : ByteArray} {nL lev : Nat}
variable {σ : ST} {pc : Nat} {lv : List (Nat × Value)} {st : List Value}
set_option maxHeartbeats 4000000 in
set_option maxRecDepth 100000 in
theorem kX4_addTable {l : Launch} {D : va_G} {ad : Nat → Nat} {cI cJ cB cZ : ClassId}  {x1 : Int32} {x2 : Int32} {σ : ST} {res : ST} (h : fX4_addTable x1 x2 σ = some res) : CMv l D (tyz cI cJ cB cZ) (wX ad cI cJ cB cZ) 1 yX4_addTable cX4_addTable 3 none [.ref (ad 8), .int x1, .int x2] σ res := by
  refine cmv_body (own := RX4) (lv := [(0, .ref (ad 8)), (1, .int x1), (2, .int x2)]) (by decide) rfl (wX_addr _ _ _ _ _) (Nat.le_of_ble_eq_true rfl) rfl (fun p e s m args below meth c A C hr => ?_)
  unfold fX4_addTable at h
  refine g_aload_n C dX4_addTable_0 rfl 0 rfl 1 rfl ?_
  refine wgX4_9_8 C dX4_addTable_1 4 rfl ?_
  refine g_bipush C (v := 7) dX4_addTable_4 (by decide) 6 rfl ?_
  refine g_icmp_ge C 45 dX4_addTable_6 (by decide) 9 rfl (fun c_1 => ?_) (fun c_1 => ?_)
  · have h := o_pos h c_1
    exact g_vret C hr dX4_addTable_45 h
  · have h := o_neg h c_1
    refine g_aload_n C dX4_addTable_9 rfl 0 rfl 10 rfl ?_
    refine wgX4_32_8 C dX4_addTable_10 13 rfl ?_
    refine g_aload_n C dX4_addTable_13 rfl 0 rfl 14 rfl ?_
    refine wgX4_9_8 C dX4_addTable_14 17 rfl ?_
    refine g_dup2 C dX4_addTable_17 rfl rfl 18 rfl ?_
    obtain ⟨c_2, h⟩ := o_chk h
    refine wlX_13 C c_2 dX4_addTable_18 19 rfl ?_
    refine g_iconst C (v := 1) dX4_addTable_19 (by decide) 20 rfl ?_
    refine g_iload_n C dX4_addTable_20 rfl 2 rfl 21 rfl ?_
    refine g_ishl C dX4_addTable_21 22 rfl ?_
    refine g_ior C dX4_addTable_22 23 rfl ?_
    obtain ⟨c_3, h⟩ := o_chk h
    obtain ⟨σ_4, eσ_4, h⟩ := o_lt h
    refine wtX_13 C eσ_4 c_3 dX4_addTable_23 24 rfl ?_
    refine g_aload_n C dX4_addTable_24 rfl 0 rfl 25 rfl ?_
    refine wgX4_38_8 C dX4_addTable_25 28 rfl ?_
    refine g_aload_n C dX4_addTable_28 rfl 0 rfl 29 rfl ?_
    refine wgX4_9_8 C dX4_addTable_29 32 rfl ?_
    refine g_dup2 C dX4_addTable_32 rfl rfl 33 rfl ?_
    obtain ⟨c_5, h⟩ := o_chk h
    refine wlX_15 C c_5 dX4_addTable_33 34 rfl ?_
    refine g_iconst C (v := 1) dX4_addTable_34 (by decide) 35 rfl ?_
    refine g_iload_n C dX4_addTable_35 rfl 2 rfl 36 rfl ?_
    refine g_ishl C dX4_addTable_36 37 rfl ?_
    refine g_ior C dX4_addTable_37 38 rfl ?_
    obtain ⟨c_6, h⟩ := o_chk h
    obtain ⟨σ_7, eσ_7, h⟩ := o_lt h
    refine wtX_15 C eσ_7 c_6 dX4_addTable_38 39 rfl ?_
    refine g_aload_n C dX4_addTable_39 rfl 0 rfl 40 rfl ?_
    refine g_iload_n C dX4_addTable_40 rfl 1 rfl 41 rfl ?_
    refine g_iload_n C dX4_addTable_41 rfl 2 rfl 42 rfl ?_
    obtain ⟨q_8, hq_8, h⟩ := o_bind h
    refine wcX4_60_X_8 C (kX4_addCode hq_8) (by decide) (Nat.le_of_ble_eq_true rfl) dX4_addTable_42 45 rfl ?_
    exact g_vret C hr dX4_addTable_45 h
end WK
/-! X2_parseInside private void parseInside(int); -/
def fX2_parseInside (rc : Int32 → ST → Option ST) (x1 : Int32) (σ : ST) : Option (ST) :=
  (if (gI σ 2) = 0 then (if ((6 : Int32)) ≤ x1 then (some σ) else (Option.bind (rc (x1 + ((1 : Int32))) σ) (fun q_3 => (some q_3)))) else (some σ))
section WK
variable {p : Program} {l : Launch} {e : Env} {R : Room} {s : State} {m : MethodId} {args : Array Value} {below : List Frame} {meth : Method} {c : Code} {Q : State → Prop}
variable {D : va_G} {ad : Nat → Nat} {cI cJ cB cZ : ClassId} {A : Nat → Prop} {cc : ByteArray} {nL lev : Nat}
variable {σ : ST} {pc : Nat} {lv : List (Nat × Value)} {st : List Value}
set_option maxHeartbeats 4000000 in
set_option maxRecDepth 100000 in
theorem kX2_parseInside {l : Launch} {D : va_G} {ad : Nat → Nat} {cI cJ cB cZ : ClassId} {rc : Int32 → ST → Option ST} {L : Nat} (hrec : ∀ (dep : Int32) (σ : ST) (res : ST), rc dep σ = some res → CMv l D (tyz cI cJ cB cZ) (wX ad cI cJ cB cZ) L yX2_parseSum cX2_parseSum 4 none [.ref (ad 7), .int dep] σ res)  {x1 : Int32} {σ : ST} {res : ST} (h : fX2_parseInside rc x1 σ = some res) : CMv l D (tyz cI cJ cB cZ) (wX ad cI cJ cB cZ) (L + 1) yX2_parseInside cX2_parseInside 2 none [.ref (ad 7), .int x1] σ res := by
  refine cmv_body (own := RX2) (lv := [(0, .ref (ad 7)), (1, .int x1)]) (by decide) rfl (wX_addr _ _ _ _ _) (Nat.le_of_ble_eq_true rfl) rfl (fun p e s m args below meth c A C hr => ?_)
  unfold fX2_parseInside at h
  refine g_aload_n C dX2_parseInside_0 rfl 0 rfl 1 rfl ?_
  refine wgX2_9_7 C dX2_parseInside_1 4 rfl ?_
  refine g_if_ne C 20 dX2_parseInside_4 (by decide) 7 rfl (fun c_1 => ?_) (fun c_1 => ?_)
  · have h := o_neg h c_1
    exact g_vret C hr dX2_parseInside_20 h
  · have h := o_pos h c_1
    refine g_iload_n C dX2_parseInside_7 rfl 1 rfl 8 rfl ?_
    refine g_bipush C (v := 6) dX2_parseInside_8 (by decide) 10 rfl ?_
    refine g_icmp_ge C 20 dX2_parseInside_10 (by decide) 13 rfl (fun c_2 => ?_) (fun c_2 => ?_)
    · have h := o_pos h c_2
      exact g_vret C hr dX2_parseInside_20 h
    · have h := o_neg h c_2
      refine g_aload_n C dX2_parseInside_13 rfl 0 rfl 14 rfl ?_
      refine g_iload_n C dX2_parseInside_14 rfl 1 rfl 15 rfl ?_
      refine g_iconst C (v := 1) dX2_parseInside_15 (by decide) 16 rfl ?_
      refine g_iadd C dX2_parseInside_16 17 rfl ?_
      obtain ⟨q_3, hq_3, h⟩ := o_bind h
      refine wcX2_65_X_7 C (hrec _ _ _ hq_3) (by omega) (Nat.le_of_ble_eq_true rfl) dX2_parseInside_17 20 rfl ?_
      exact g_vret C hr dX2_parseInside_20 h
end WK
/-! X4_partNamed int partNamed(long); -/
def fX4_partNamed_L2  : Nat → Int64 → Int32 → ST → Option (Int32 × ST)
  | 0, _, _, _ => none
  | n + 1, x1, x3, σ => (if (gI σ 7) ≤ x3 then (some ((-1 : Int32), σ)) else (if ix x3 7 then (if (lg_cmp (ldB σ 9 x3) x1) = 0 then (if (((gI σ 8) >>> (x3 &&& 31)) &&& ((1 : Int32))) = 0 then (some (x3, σ)) else (lt (x3 + 1) (fun x3_7 => (fX4_partNamed_L2 n x1 x3_7 σ)))) else (lt (x3 + 1) (fun x3_5 => (fX4_partNamed_L2 n x1 x3_5 σ)))) else none))
def fX4_partNamed (n : Nat) (x1 : Int64) (σ : ST) : Option (Int32 × ST) :=
  (lt ((0 : Int32)) (fun x3_1 => (fX4_partNamed_L2 n x1 x3_1 σ)))
section WK
variable {p : Program} {l : Launch} {e : Env} {R : Room} {s : State} {m : MethodId} {args : Array Value} {below : List Frame} {meth : Method} {c : Code} {Q : State → Prop}
variable {D : va_G} {ad : Nat → Nat} {cI cJ cB cZ : ClassId} {A : Nat → Prop} {cc : ByteArray} {nL lev : Nat}
variable {σ : ST} {pc : Nat} {lv : List (Nat × Value)} {st : List Value}
set_option maxHeartbeats 4000000 in
set_option maxRecDepth 100000 in
theorem kX4_partNamed_L2 (C : Ctx p l e (rmL 0) s m args below meth c D (tyz cI cJ cB cZ) (wX ad cI cJ cB cZ) A cX4_partNamed 4 0 RX4) (hr : meth.sig.returnType = some .int) {res : Int32 × ST}   : ∀ (n : Nat) (x1 : Int64) (x3 : Int32) (σ : ST), fX4_partNamed_L2 n x1 x3 σ = some res → G p l e (rmL 0) s m args below meth c (MQ below (Qi D (tyz cI cJ cB cZ) (wX ad cI cJ cB cZ) A res) args s 0 0 A) D (wX ad cI cJ cB cZ) A 4 σ 2 [(0, .ref (ad 8)), (1, .long x1), (3, .int x3)] [] := by
  intro n
  induction n with
  | zero => intro x1 x3 σ h; have h : none = some res := h; cases h
  | succ n ih =>
    intro x1 x3 σ h
    rw [fX4_partNamed_L2] at h
    refine g_iload_n C dX4_partNamed_2 rfl 2 rfl 3 rfl ?_
    refine g_aload_n C dX4_partNamed_3 rfl 0 rfl 4 rfl ?_
    refine wgX4_9_8 C dX4_partNamed_4 7 rfl ?_
    refine g_icmp_ge C 40 dX4_partNamed_7 (by decide) 10 rfl (fun c_2 => ?_) (fun c_2 => ?_)
    · have h := o_pos h c_2
      refine g_iconst C (v := -1) dX4_partNamed_40 (by decide) 41 rfl ?_
      exact g_iret C hr dX4_partNamed_41 h
    · have h := o_neg h c_2
      refine g_aload_n C dX4_partNamed_10 rfl 0 rfl 11 rfl ?_
      refine wgX4_18_8 C dX4_partNamed_11 14 rfl ?_
      refine g_iload_n C dX4_partNamed_14 rfl 2 rfl 15 rfl ?_
      obtain ⟨c_3, h⟩ := o_chk h
      refine wlX_9 C c_3 dX4_partNamed_15 16 rfl ?_
      refine g_lload_n C dX4_partNamed_16 rfl 1 rfl 17 rfl ?_
      refine g_lcmp C dX4_partNamed_17 18 rfl ?_
      refine g_if_ne C 34 dX4_partNamed_18 (by decide) 21 rfl (fun c_4 => ?_) (fun c_4 => ?_)
      · have h := o_neg h c_4
        obtain ⟨x3_5, ex3_5, h⟩ := o_lt h
        refine g_iinc C (lv' := [(3, .int x3_5), (0, .ref (ad 8)), (1, .long x1)]) ex3_5 dX4_partNamed_34 2 rfl (by decide) (by decide) rfl 37 rfl ?_
        refine g_goto C 2 dX4_partNamed_37 (by decide) ?_
        exact g_sub C [1, 2, 0] rfl (ih x1 x3_5 σ h)
      · have h := o_pos h c_4
        refine g_aload_n C dX4_partNamed_21 rfl 0 rfl 22 rfl ?_
        refine wgX4_15_8 C dX4_partNamed_22 25 rfl ?_
        refine g_iload_n C dX4_partNamed_25 rfl 2 rfl 26 rfl ?_
        refine g_ishr C dX4_partNamed_26 27 rfl ?_
        refine g_iconst C (v := 1) dX4_partNamed_27 (by decide) 28 rfl ?_
        refine g_iand C dX4_partNamed_28 29 rfl ?_
        refine g_if_ne C 34 dX4_partNamed_29 (by decide) 32 rfl (fun c_6 => ?_) (fun c_6 => ?_)
        · have h := o_neg h c_6
          obtain ⟨x3_7, ex3_7, h⟩ := o_lt h
          refine g_iinc C (lv' := [(3, .int x3_7), (0, .ref (ad 8)), (1, .long x1)]) ex3_7 dX4_partNamed_34 2 rfl (by decide) (by decide) rfl 37 rfl ?_
          refine g_goto C 2 dX4_partNamed_37 (by decide) ?_
          exact g_sub C [1, 2, 0] rfl (ih x1 x3_7 σ h)
        · have h := o_pos h c_6
          refine g_iload_n C dX4_partNamed_32 rfl 2 rfl 33 rfl ?_
          exact g_iret C hr dX4_partNamed_33 h
set_option maxHeartbeats 4000000 in
set_option maxRecDepth 100000 in
theorem kX4_partNamed {l : Launch} {D : va_G} {ad : Nat → Nat} {cI cJ cB cZ : ClassId}  {n : Nat} {x1 : Int64} {σ : ST} {res : Int32 × ST} (h : fX4_partNamed n x1 σ = some res) : CMi l D (tyz cI cJ cB cZ) (wX ad cI cJ cB cZ) 0 yX4_partNamed cX4_partNamed 4 (some .int) [.ref (ad 8), .long x1] σ res := by
  refine cmi_body (own := RX4) (lv := [(0, .ref (ad 8)), (1, .long x1)]) (by decide) rfl (wX_addr _ _ _ _ _) (Nat.le_of_ble_eq_true rfl) rfl (fun p e s m args below meth c A C hr => ?_)
  unfold fX4_partNamed at h
  refine g_iconst C (v := 0) dX4_partNamed_0 (by decide) 1 rfl ?_
  obtain ⟨x3_1, ex3_1, h⟩ := o_lt h
  refine g_istore_n C (lv' := [(3, .int x3_1), (0, .ref (ad 8)), (1, .long x1)]) ex3_1 dX4_partNamed_1 rfl (by decide) rfl 2 rfl ?_
  exact g_sub C [1, 2, 0] rfl (kX4_partNamed_L2 C hr  n x1 x3_1 σ h)
end WK
/-! X2_acceptPart private int acceptPart(); -/
def fX2_acceptPart (n : Nat)  (σ : ST) : Option (Int32 × ST) :=
  (if ix (gI σ 4) 401 then (Option.bind (fX4_partNamed n (ldB σ 6 (gI σ 4)) σ) (fun q_2 => (lt (q_2.1) (fun x1_3 => (lt (fun (x1_4 : Int32) (σ_5 : ST) => (Option.bind (fX2_accept ((256 : Int32)) σ_5) (fun q_6 => (some (x1_4, q_6))))) (fun j30 => (if x1_3 = ((-1 : Int32)) then (Option.bind (fX2_noteSense ((4 : Int32)) q_2.2) (fun q_8 => (j30 x1_3 q_8))) else (j30 x1_3 q_2.2)))))))) else none)
section WK
variable {p : Program} {l : Launch} {e : Env} {R : Room} {s : State} {m : MethodId} {args : Array Value} {below : List Frame} {meth : Method} {c : Code} {Q : State → Prop}
variable {D : va_G} {ad : Nat → Nat} {cI cJ cB cZ : ClassId} {A : Nat → Prop} {cc : ByteArray} {nL lev : Nat}
variable {σ : ST} {pc : Nat} {lv : List (Nat × Value)} {st : List Value}
set_option maxHeartbeats 4000000 in
set_option maxRecDepth 100000 in
theorem kX2_acceptPart {l : Launch} {D : va_G} {ad : Nat → Nat} {cI cJ cB cZ : ClassId}  {n : Nat}  {σ : ST} {res : Int32 × ST} (h : fX2_acceptPart n σ = some res) : CMi l D (tyz cI cJ cB cZ) (wX ad cI cJ cB cZ) 1 yX2_acceptPart cX2_acceptPart 2 (some .int) [.ref (ad 7)] σ res := by
  refine cmi_body (own := RX2) (lv := [(0, .ref (ad 7))]) (by decide) rfl (wX_addr _ _ _ _ _) (Nat.le_of_ble_eq_true rfl) rfl (fun p e s m args below meth c A C hr => ?_)
  unfold fX2_acceptPart at h
  refine g_aload_n C dX2_acceptPart_0 rfl 0 rfl 1 rfl ?_
  refine wgX2_22_7 C dX2_acceptPart_1 4 rfl ?_
  refine g_aload_n C dX2_acceptPart_4 rfl 0 rfl 5 rfl ?_
  refine wgX2_18_7 C dX2_acceptPart_5 8 rfl ?_
  refine wgX2_122_3 C dX2_acceptPart_8 11 rfl ?_
  refine g_aload_n C dX2_acceptPart_11 rfl 0 rfl 12 rfl ?_
  refine wgX2_31_7 C dX2_acceptPart_12 15 rfl ?_
  obtain ⟨c_1, h⟩ := o_chk h
  refine wlX_6 C c_1 dX2_acceptPart_15 16 rfl ?_
  obtain ⟨q_2, hq_2, h⟩ := o_bind h
  refine wcX2_127_X_8 C (kX4_partNamed hq_2) (by decide) (Nat.le_of_ble_eq_true rfl) dX2_acceptPart_16 19 rfl ?_
  obtain ⟨x1_3, ex1_3, h⟩ := o_lt h
  refine g_istore_n C (lv' := [(1, .int x1_3), (0, .ref (ad 7))]) ex1_3 dX2_acceptPart_19 rfl (by decide) rfl 20 rfl ?_
  refine g_iload_n C dX2_acceptPart_20 rfl 0 rfl 21 rfl ?_
  refine g_iconst C (v := -1) dX2_acceptPart_21 (by decide) 22 rfl ?_
  obtain ⟨j30, ej30, h⟩ := o_lt h
  have hj30 : ∀ (x1_4 : Int32) (σ_5 : ST), j30 x1_4 σ_5 = some res → G p l e (rmL 1) s m args below meth c (MQ below (Qi D (tyz cI cJ cB cZ) (wX ad cI cJ cB cZ) A res) args s 0 0 A) D (wX ad cI cJ cB cZ) A 2 σ_5 30 [(0, .ref (ad 7)), (1, .int x1_4)] [] := by
    intro x1_4 σ_5 h
    rw [ej30] at h
    refine g_aload_n C dX2_acceptPart_30 rfl 0 rfl 31 rfl ?_
    refine g_sipush C (v := 256) dX2_acceptPart_31 (by decide) 34 rfl ?_
    obtain ⟨q_6, hq_6, h⟩ := o_bind h
    refine wcX2_58_X_7 C (kX2_accept hq_6) (by decide) (Nat.le_of_ble_eq_true rfl) dX2_acceptPart_34 37 rfl ?_
    refine g_iload_n C dX2_acceptPart_37 rfl 1 rfl 38 rfl ?_
    exact g_iret C hr dX2_acceptPart_38 h
  refine g_icmp_ne C 30 dX2_acceptPart_22 (by decide) 25 rfl (fun c_7 => ?_) (fun c_7 => ?_)
  · have h := o_neg h c_7
    exact g_sub C [1, 0] rfl (hj30 x1_3 q_2.2 h)
  · have h := o_pos h c_7
    refine g_aload_n C dX2_acceptPart_25 rfl 1 rfl 26 rfl ?_
    refine g_iconst C (v := 4) dX2_acceptPart_26 (by decide) 27 rfl ?_
    obtain ⟨q_8, hq_8, h⟩ := o_bind h
    refine wcX2_131_X_7 C (kX2_noteSense hq_8) (by decide) (Nat.le_of_ble_eq_true rfl) dX2_acceptPart_27 30 rfl ?_
    exact g_sub C [1, 0] rfl (hj30 x1_3 q_8 h)
end WK
/-! X4_addPart void addPart(int); -/
def fX4_addPart (x1 : Int32) (σ : ST) : Option (ST) :=
  (if x1 < 0 then (some σ) else (if (gI σ 7) ≤ x1 then (some σ) else (if ((7 : Int32)) ≤ (gI σ 7) then (some σ) else (if ix (gI σ 7) 7 then (if ix (gI σ 7) 7 then (lt (stA σ 14 (gI σ 7) ((ldA σ 14 (gI σ 7)) ||| (((1 : Int32)) <<< (x1 &&& 31)))) (fun σ_6 => (if ix (gI σ_6 7) 7 then (if ix x1 7 then (if ix (gI σ_6 7) 7 then (lt (stA σ_6 15 (gI σ_6 7) ((ldA σ_6 15 (gI σ_6 7)) ||| (ldA σ_6 15 x1))) (fun σ_10 => (Option.bind (fX4_addCode ((256 : Int32)) x1 σ_10) (fun q_11 => (some q_11))))) else none) else none) else none))) else none) else none))))
section WK
variable {p : Program} {l : Launch} {e : Env} {R : Room} {s : State} {m : MethodId} {args : Array Value} {below : List Frame} {meth : Method} {c : Code} {Q : State → Prop}
variable {D : va_G} {ad : Nat → Nat} {cI cJ cB cZ : ClassId} {A : Nat → Prop} {cc : ByteArray} {nL lev : Nat}
variable {σ : ST} {pc : Nat} {lv : List (Nat × Value)} {st : List Value}
set_option maxHeartbeats 4000000 in
set_option maxRecDepth 100000 in
theorem kX4_addPart {l : Launch} {D : va_G} {ad : Nat → Nat} {cI cJ cB cZ : ClassId}  {x1 : Int32} {σ : ST} {res : ST} (h : fX4_addPart x1 σ = some res) : CMv l D (tyz cI cJ cB cZ) (wX ad cI cJ cB cZ) 1 yX4_addPart cX4_addPart 2 none [.ref (ad 8), .int x1] σ res := by
  refine cmv_body (own := RX4) (lv := [(0, .ref (ad 8)), (1, .int x1)]) (by decide) rfl (wX_addr _ _ _ _ _) (Nat.le_of_ble_eq_true rfl) rfl (fun p e s m args below meth c A C hr => ?_)
  unfold fX4_addPart at h
  refine g_iload_n C dX4_addPart_0 rfl 1 rfl 1 rfl ?_
  refine g_if_lt C 62 dX4_addPart_1 (by decide) 4 rfl (fun c_1 => ?_) (fun c_1 => ?_)
  · have h := o_pos h c_1
    exact g_vret C hr dX4_addPart_62 h
  · have h := o_neg h c_1
    refine g_iload_n C dX4_addPart_4 rfl 1 rfl 5 rfl ?_
    refine g_aload_n C dX4_addPart_5 rfl 0 rfl 6 rfl ?_
    refine wgX4_9_8 C dX4_addPart_6 9 rfl ?_
    refine g_icmp_ge C 62 dX4_addPart_9 (by decide) 12 rfl (fun c_2 => ?_) (fun c_2 => ?_)
    · have h := o_pos h c_2
      exact g_vret C hr dX4_addPart_62 h
    · have h := o_neg h c_2
      refine g_aload_n C dX4_addPart_12 rfl 0 rfl 13 rfl ?_
      refine wgX4_9_8 C dX4_addPart_13 16 rfl ?_
      refine g_bipush C (v := 7) dX4_addPart_16 (by decide) 18 rfl ?_
      refine g_icmp_ge C 62 dX4_addPart_18 (by decide) 21 rfl (fun c_3 => ?_) (fun c_3 => ?_)
      · have h := o_pos h c_3
        exact g_vret C hr dX4_addPart_62 h
      · have h := o_neg h c_3
        refine g_aload_n C dX4_addPart_21 rfl 0 rfl 22 rfl ?_
        refine wgX4_35_8 C dX4_addPart_22 25 rfl ?_
        refine g_aload_n C dX4_addPart_25 rfl 0 rfl 26 rfl ?_
        refine wgX4_9_8 C dX4_addPart_26 29 rfl ?_
        refine g_dup2 C dX4_addPart_29 rfl rfl 30 rfl ?_
        obtain ⟨c_4, h⟩ := o_chk h
        refine wlX_14 C c_4 dX4_addPart_30 31 rfl ?_
        refine g_iconst C (v := 1) dX4_addPart_31 (by decide) 32 rfl ?_
        refine g_iload_n C dX4_addPart_32 rfl 1 rfl 33 rfl ?_
        refine g_ishl C dX4_addPart_33 34 rfl ?_
        refine g_ior C dX4_addPart_34 35 rfl ?_
        obtain ⟨c_5, h⟩ := o_chk h
        obtain ⟨σ_6, eσ_6, h⟩ := o_lt h
        refine wtX_14 C eσ_6 c_5 dX4_addPart_35 36 rfl ?_
        refine g_aload_n C dX4_addPart_36 rfl 0 rfl 37 rfl ?_
        refine wgX4_38_8 C dX4_addPart_37 40 rfl ?_
        refine g_aload_n C dX4_addPart_40 rfl 0 rfl 41 rfl ?_
        refine wgX4_9_8 C dX4_addPart_41 44 rfl ?_
        refine g_dup2 C dX4_addPart_44 rfl rfl 45 rfl ?_
        obtain ⟨c_7, h⟩ := o_chk h
        refine wlX_15 C c_7 dX4_addPart_45 46 rfl ?_
        refine g_aload_n C dX4_addPart_46 rfl 0 rfl 47 rfl ?_
        refine wgX4_38_8 C dX4_addPart_47 50 rfl ?_
        refine g_iload_n C dX4_addPart_50 rfl 1 rfl 51 rfl ?_
        obtain ⟨c_8, h⟩ := o_chk h
        refine wlX_15 C c_8 dX4_addPart_51 52 rfl ?_
        refine g_ior C dX4_addPart_52 53 rfl ?_
        obtain ⟨c_9, h⟩ := o_chk h
        obtain ⟨σ_10, eσ_10, h⟩ := o_lt h
        refine wtX_15 C eσ_10 c_9 dX4_addPart_53 54 rfl ?_
        refine g_aload_n C dX4_addPart_54 rfl 0 rfl 55 rfl ?_
        refine g_sipush C (v := 256) dX4_addPart_55 (by decide) 58 rfl ?_
        refine g_iload_n C dX4_addPart_58 rfl 1 rfl 59 rfl ?_
        obtain ⟨q_11, hq_11, h⟩ := o_bind h
        refine wcX4_60_X_8 C (kX4_addCode hq_11) (by decide) (Nat.le_of_ble_eq_true rfl) dX4_addPart_59 62 rfl ?_
        exact g_vret C hr dX4_addPart_62 h
end WK
/-! X2_parseUnit private void parseUnit(int); -/
def fX2_parseUnit (rc : Int32 → ST → Option ST) (n : Nat) (x1 : Int32) (σ : ST) : Option (ST) :=
  (Option.bind (fX2_peek σ) (fun q_1 => (lt (q_1.1) (fun x2_2 => (lt (fun (x1_3 : Int32) (x2_4 : Int32) (σ_5 : ST) => (Option.bind (fX2_accept x2_4 σ_5) (fun q_6 => (Option.bind (fX2_acceptOpening x1_3 q_6) (fun q_7 => (Option.bind (fX2_acceptInt ((0 : Int32)) ((5 : Int32)) q_7) (fun q_8 => (Option.bind (fX4_addTable x2_4 q_8.1 q_8.2) (fun q_9 => (Option.bind (fX2_accept ((41 : Int32)) q_9) (fun q_10 => (some q_10)))))))))))) (fun j107 => (if x2_2 = (40 : Int32) then (Option.bind (fX2_acceptOpening x1 q_1.2) (fun q_19 => (Option.bind (fX2_parseInside rc x1 q_19) (fun q_20 => (Option.bind (fX2_accept ((41 : Int32)) q_20) (fun q_21 => (some q_21))))))) else (if x2_2 = (256 : Int32) then (Option.bind (fX2_acceptPart n q_1.2) (fun q_22 => (Option.bind (fX4_addPart q_22.1 q_22.2) (fun q_23 => (some q_23))))) else (if x2_2 = (257 : Int32) then (Option.bind (fX2_acceptInt ((0 : Int32)) ((9999 : Int32)) q_1.2) (fun q_24 => (Option.bind (fX4_addCode ((257 : Int32)) q_24.1 q_24.2) (fun q_25 => (some q_25))))) else (if x2_2 = (265 : Int32) then (j107 x1 x2_2 q_1.2) else (if x2_2 = (266 : Int32) then (j107 x1 x2_2 q_1.2) else (if x2_2 = (267 : Int32) then (j107 x1 x2_2 q_1.2) else (if x2_2 = (268 : Int32) then (Option.bind (fX2_accept ((268 : Int32)) q_1.2) (fun q_26 => (Option.bind (fX2_acceptOpening x1 q_26) (fun q_27 => (Option.bind (fX2_parseInside rc x1 q_27) (fun q_28 => (Option.bind (fX2_accept ((44 : Int32)) q_28) (fun q_29 => (Option.bind (fX2_parseInside rc x1 q_29) (fun q_30 => (Option.bind (fX2_accept ((41 : Int32)) q_30) (fun q_31 => (Option.bind (fX4_addCode ((268 : Int32)) ((0 : Int32)) q_31) (fun q_32 => (some q_32))))))))))))))) else (Option.bind (fX2_fail ((1 : Int32)) q_1.2) (fun q_11 => (some q_11))))))))))))))))
section WK
variable {p : Program} {l : Launch} {e : Env} {R : Room} {s : State} {m : MethodId} {args : Array Value} {below : List Frame} {meth : Method} {c : Code} {Q : State → Prop}
variable {D : va_G} {ad : Nat → Nat} {cI cJ cB cZ : ClassId} {A : Nat → Prop} {cc : ByteArray} {nL lev : Nat}
variable {σ : ST} {pc : Nat} {lv : List (Nat × Value)} {st : List Value}
set_option maxHeartbeats 4000000 in
set_option maxRecDepth 100000 in
theorem kX2_parseUnit {l : Launch} {D : va_G} {ad : Nat → Nat} {cI cJ cB cZ : ClassId} {rc : Int32 → ST → Option ST} {L : Nat} (hrec : ∀ (dep : Int32) (σ : ST) (res : ST), rc dep σ = some res → CMv l D (tyz cI cJ cB cZ) (wX ad cI cJ cB cZ) L yX2_parseSum cX2_parseSum 4 none [.ref (ad 7), .int dep] σ res)  {n : Nat} {x1 : Int32} {σ : ST} {res : ST} (h : fX2_parseUnit rc n x1 σ = some res) : CMv l D (tyz cI cJ cB cZ) (wX ad cI cJ cB cZ) (L + 10) yX2_parseUnit cX2_parseUnit 3 none [.ref (ad 7), .int x1] σ res := by
  refine cmv_body (own := RX2) (lv := [(0, .ref (ad 7)), (1, .int x1)]) (by decide) rfl (wX_addr _ _ _ _ _) (Nat.le_of_ble_eq_true rfl) rfl (fun p e s m args below meth c A C hr => ?_)
  unfold fX2_parseUnit at h
  refine g_aload_n C dX2_parseUnit_0 rfl 0 rfl 1 rfl ?_
  obtain ⟨q_1, hq_1, h⟩ := o_bind h
  refine wcX2_40_X_7 C (kX2_peek hq_1) (by omega) (Nat.le_of_ble_eq_true rfl) dX2_parseUnit_1 4 rfl ?_
  obtain ⟨x2_2, ex2_2, h⟩ := o_lt h
  refine g_istore_n C (lv' := [(2, .int x2_2), (0, .ref (ad 7)), (1, .int x1)]) ex2_2 dX2_parseUnit_4 rfl (by decide) rfl 5 rfl ?_
  refine g_iload_n C dX2_parseUnit_5 rfl 0 rfl 6 rfl ?_
  obtain ⟨j107, ej107, h⟩ := o_lt h
  have hj107 : ∀ (x1_3 : Int32) (x2_4 : Int32) (σ_5 : ST), j107 x1_3 x2_4 σ_5 = some res → G p l e (rmL (L + 10)) s m args below meth c (MQ below (Qv D (tyz cI cJ cB cZ) (wX ad cI cJ cB cZ) A res) args s 0 0 A) D (wX ad cI cJ cB cZ) A 3 σ_5 107 [(0, .ref (ad 7)), (1, .int x1_3), (2, .int x2_4)] [] := by
    intro x1_3 x2_4 σ_5 h
    rw [ej107] at h
    refine g_aload_n C dX2_parseUnit_107 rfl 0 rfl 108 rfl ?_
    refine g_iload_n C dX2_parseUnit_108 rfl 2 rfl 109 rfl ?_
    obtain ⟨q_6, hq_6, h⟩ := o_bind h
    refine wcX2_58_X_7 C (kX2_accept hq_6) (by omega) (Nat.le_of_ble_eq_true rfl) dX2_parseUnit_109 112 rfl ?_
    refine g_aload_n C dX2_parseUnit_112 rfl 0 rfl 113 rfl ?_
    refine g_iload_n C dX2_parseUnit_113 rfl 1 rfl 114 rfl ?_
    obtain ⟨q_7, hq_7, h⟩ := o_bind h
    refine wcX2_113_X_7 C (kX2_acceptOpening hq_7) (by omega) (Nat.le_of_ble_eq_true rfl) dX2_parseUnit_114 117 rfl ?_
    refine g_aload_n C dX2_parseUnit_117 rfl 0 rfl 118 rfl ?_
    refine wgX2_22_7 C dX2_parseUnit_118 121 rfl ?_
    refine g_iload_n C dX2_parseUnit_121 rfl 2 rfl 122 rfl ?_
    refine g_aload_n C dX2_parseUnit_122 rfl 0 rfl 123 rfl ?_
    refine g_iconst C (v := 0) dX2_parseUnit_123 (by decide) 124 rfl ?_
    refine g_iconst C (v := 5) dX2_parseUnit_124 (by decide) 125 rfl ?_
    obtain ⟨q_8, hq_8, h⟩ := o_bind h
    refine wcX2_87_X_7 C (kX2_acceptInt hq_8) (by omega) (Nat.le_of_ble_eq_true rfl) dX2_parseUnit_125 128 rfl ?_
    obtain ⟨q_9, hq_9, h⟩ := o_bind h
    refine wcX2_116_X_8 C (kX4_addTable hq_9) (by omega) (Nat.le_of_ble_eq_true rfl) dX2_parseUnit_128 131 rfl ?_
    refine g_aload_n C dX2_parseUnit_131 rfl 0 rfl 132 rfl ?_
    refine g_bipush C (v := 41) dX2_parseUnit_132 (by decide) 134 rfl ?_
    obtain ⟨q_10, hq_10, h⟩ := o_bind h
    refine wcX2_58_X_7 C (kX2_accept hq_10) (by omega) (Nat.le_of_ble_eq_true rfl) dX2_parseUnit_134 137 rfl ?_
    refine g_goto C 212 dX2_parseUnit_137 (by decide) ?_
    exact g_vret C hr dX2_parseUnit_212 h
  rcases o_ite h with ⟨c_12, h⟩ | ⟨c_12, h⟩
  · refine g_look C (off := 182) 188 dX2_parseUnit_6 (by decide) (by rw [c_12]; try rfl) (by decide) ?_
    refine g_aload_n C dX2_parseUnit_188 rfl 1 rfl 189 rfl ?_
    refine g_iload_n C dX2_parseUnit_189 rfl 2 rfl 190 rfl ?_
    obtain ⟨q_19, hq_19, h⟩ := o_bind h
    refine wcX2_113_X_7 C (kX2_acceptOpening hq_19) (by omega) (Nat.le_of_ble_eq_true rfl) dX2_parseUnit_190 193 rfl ?_
    refine g_aload_n C dX2_parseUnit_193 rfl 1 rfl 194 rfl ?_
    refine g_iload_n C dX2_parseUnit_194 rfl 2 rfl 195 rfl ?_
    obtain ⟨q_20, hq_20, h⟩ := o_bind h
    refine wcX2_119_X_7 C (kX2_parseInside hrec hq_20) (by omega) (Nat.le_of_ble_eq_true rfl) dX2_parseUnit_195 198 rfl ?_
    refine g_aload_n C dX2_parseUnit_198 rfl 1 rfl 199 rfl ?_
    refine g_bipush C (v := 41) dX2_parseUnit_199 (by decide) 201 rfl ?_
    obtain ⟨q_21, hq_21, h⟩ := o_bind h
    refine wcX2_58_X_7 C (kX2_accept hq_21) (by omega) (Nat.le_of_ble_eq_true rfl) dX2_parseUnit_201 204 rfl ?_
    refine g_goto C 212 dX2_parseUnit_204 (by decide) ?_
    exact g_vret C hr dX2_parseUnit_212 h
  rcases o_ite h with ⟨c_13, h⟩ | ⟨c_13, h⟩
  · refine g_look C (off := 87) 93 dX2_parseUnit_6 (by decide) (by rw [c_13]; try rfl) (by decide) ?_
    refine g_aload_n C dX2_parseUnit_93 rfl 1 rfl 94 rfl ?_
    refine wgX2_22_7 C dX2_parseUnit_94 97 rfl ?_
    refine g_aload_n C dX2_parseUnit_97 rfl 1 rfl 98 rfl ?_
    obtain ⟨q_22, hq_22, h⟩ := o_bind h
    refine wcX2_107_X_7 C (kX2_acceptPart hq_22) (by omega) (Nat.le_of_ble_eq_true rfl) dX2_parseUnit_98 101 rfl ?_
    obtain ⟨q_23, hq_23, h⟩ := o_bind h
    refine wcX2_110_X_8 C (kX4_addPart hq_23) (by omega) (Nat.le_of_ble_eq_true rfl) dX2_parseUnit_101 104 rfl ?_
    refine g_goto C 212 dX2_parseUnit_104 (by decide) ?_
    exact g_vret C hr dX2_parseUnit_212 h
  rcases o_ite h with ⟨c_14, h⟩ | ⟨c_14, h⟩
  · refine g_look C (off := 66) 72 dX2_parseUnit_6 (by decide) (by rw [c_14]; try rfl) (by decide) ?_
    refine g_aload_n C dX2_parseUnit_72 rfl 1 rfl 73 rfl ?_
    refine wgX2_22_7 C dX2_parseUnit_73 76 rfl ?_
    refine g_sipush C (v := 257) dX2_parseUnit_76 (by decide) 79 rfl ?_
    refine g_aload_n C dX2_parseUnit_79 rfl 1 rfl 80 rfl ?_
    refine g_iconst C (v := 0) dX2_parseUnit_80 (by decide) 81 rfl ?_
    refine g_sipush C (v := 9999) dX2_parseUnit_81 (by decide) 84 rfl ?_
    obtain ⟨q_24, hq_24, h⟩ := o_bind h
    refine wcX2_87_X_7 C (kX2_acceptInt hq_24) (by omega) (Nat.le_of_ble_eq_true rfl) dX2_parseUnit_84 87 rfl ?_
    obtain ⟨q_25, hq_25, h⟩ := o_bind h
    refine wcX2_100_X_8 C (kX4_addCode hq_25) (by omega) (Nat.le_of_ble_eq_true rfl) dX2_parseUnit_87 90 rfl ?_
    refine g_goto C 212 dX2_parseUnit_90 (by decide) ?_
    exact g_vret C hr dX2_parseUnit_212 h
  rcases o_ite h with ⟨c_15, h⟩ | ⟨c_15, h⟩
  · refine g_look C (off := 101) 107 dX2_parseUnit_6 (by decide) (by rw [c_15]; try rfl) (by decide) ?_
    exact g_sub C [1, 2, 0] rfl (hj107 x1 x2_2 q_1.2 h)
  rcases o_ite h with ⟨c_16, h⟩ | ⟨c_16, h⟩
  · refine g_look C (off := 101) 107 dX2_parseUnit_6 (by decide) (by rw [c_16]; try rfl) (by decide) ?_
    exact g_sub C [1, 2, 0] rfl (hj107 x1 x2_2 q_1.2 h)
  rcases o_ite h with ⟨c_17, h⟩ | ⟨c_17, h⟩
  · refine g_look C (off := 101) 107 dX2_parseUnit_6 (by decide) (by rw [c_17]; try rfl) (by decide) ?_
    exact g_sub C [1, 2, 0] rfl (hj107 x1 x2_2 q_1.2 h)
  rcases o_ite h with ⟨c_18, h⟩ | ⟨c_18, h⟩
  · refine g_look C (off := 134) 140 dX2_parseUnit_6 (by decide) (by rw [c_18]; try rfl) (by decide) ?_
    refine g_aload_n C dX2_parseUnit_140 rfl 1 rfl 141 rfl ?_
    refine g_sipush C (v := 268) dX2_parseUnit_141 (by decide) 144 rfl ?_
    obtain ⟨q_26, hq_26, h⟩ := o_bind h
    refine wcX2_58_X_7 C (kX2_accept hq_26) (by omega) (Nat.le_of_ble_eq_true rfl) dX2_parseUnit_144 147 rfl ?_
    refine g_aload_n C dX2_parseUnit_147 rfl 1 rfl 148 rfl ?_
    refine g_iload_n C dX2_parseUnit_148 rfl 2 rfl 149 rfl ?_
    obtain ⟨q_27, hq_27, h⟩ := o_bind h
    refine wcX2_113_X_7 C (kX2_acceptOpening hq_27) (by omega) (Nat.le_of_ble_eq_true rfl) dX2_parseUnit_149 152 rfl ?_
    refine g_aload_n C dX2_parseUnit_152 rfl 1 rfl 153 rfl ?_
    refine g_iload_n C dX2_parseUnit_153 rfl 2 rfl 154 rfl ?_
    obtain ⟨q_28, hq_28, h⟩ := o_bind h
    refine wcX2_119_X_7 C (kX2_parseInside hrec hq_28) (by omega) (Nat.le_of_ble_eq_true rfl) dX2_parseUnit_154 157 rfl ?_
    refine g_aload_n C dX2_parseUnit_157 rfl 1 rfl 158 rfl ?_
    refine g_bipush C (v := 44) dX2_parseUnit_158 (by decide) 160 rfl ?_
    obtain ⟨q_29, hq_29, h⟩ := o_bind h
    refine wcX2_58_X_7 C (kX2_accept hq_29) (by omega) (Nat.le_of_ble_eq_true rfl) dX2_parseUnit_160 163 rfl ?_
    refine g_aload_n C dX2_parseUnit_163 rfl 1 rfl 164 rfl ?_
    refine g_iload_n C dX2_parseUnit_164 rfl 2 rfl 165 rfl ?_
    obtain ⟨q_30, hq_30, h⟩ := o_bind h
    refine wcX2_119_X_7 C (kX2_parseInside hrec hq_30) (by omega) (Nat.le_of_ble_eq_true rfl) dX2_parseUnit_165 168 rfl ?_
    refine g_aload_n C dX2_parseUnit_168 rfl 1 rfl 169 rfl ?_
    refine g_bipush C (v := 41) dX2_parseUnit_169 (by decide) 171 rfl ?_
    obtain ⟨q_31, hq_31, h⟩ := o_bind h
    refine wcX2_58_X_7 C (kX2_accept hq_31) (by omega) (Nat.le_of_ble_eq_true rfl) dX2_parseUnit_171 174 rfl ?_
    refine g_aload_n C dX2_parseUnit_174 rfl 1 rfl 175 rfl ?_
    refine wgX2_22_7 C dX2_parseUnit_175 178 rfl ?_
    refine g_sipush C (v := 268) dX2_parseUnit_178 (by decide) 181 rfl ?_
    refine g_iconst C (v := 0) dX2_parseUnit_181 (by decide) 182 rfl ?_
    obtain ⟨q_32, hq_32, h⟩ := o_bind h
    refine wcX2_100_X_8 C (kX4_addCode hq_32) (by omega) (Nat.le_of_ble_eq_true rfl) dX2_parseUnit_182 185 rfl ?_
    refine g_goto C 212 dX2_parseUnit_185 (by decide) ?_
    exact g_vret C hr dX2_parseUnit_212 h
  refine g_look C (off := 201) 207 dX2_parseUnit_6 (by decide) ((lv_osw c_12 (by decide)).trans ((lv_osw c_13 (by decide)).trans ((lv_osw c_14 (by decide)).trans ((lv_osw c_15 (by decide)).trans ((lv_osw c_16 (by decide)).trans ((lv_osw c_17 (by decide)).trans ((lv_osw c_18 (by decide)).trans (rfl)))))))) (by decide) ?_
  refine g_aload_n C dX2_parseUnit_207 rfl 1 rfl 208 rfl ?_
  refine g_iconst C (v := 1) dX2_parseUnit_208 (by decide) 209 rfl ?_
  obtain ⟨q_11, hq_11, h⟩ := o_bind h
  refine wcX2_47_X_7 C (kX2_fail hq_11) (by omega) (Nat.le_of_ble_eq_true rfl) dX2_parseUnit_209 212 rfl ?_
  exact g_vret C hr dX2_parseUnit_212 h
end WK
