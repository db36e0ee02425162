/-! X11_lands private void lands(boolean); -/
def fX11_lands_L2  : Nat → Int32 → Int32 → ST → Option (ST)
  | 0, _, _, _ => none
  | n + 1, x1, x2, σ => (if ((6 : Int32)) ≤ x2 then (some σ) else (lt (fun (x1_3 : Int32) (x2_4 : Int32) (v_5 : Int32) (σ_6 : ST) => (lt (v_5) (fun x3_7 => (if ix x2_4 6 then (if (ldA σ_6 24 x2_4) ≤ 0 then (if x3_7 ≤ (gI σ_6 18) then (if ix x2_4 6 then (lt (stA σ_6 48 x2_4 ((gI σ_6 18) + ((1 : Int32)))) (fun σ_12 => (lt (x2_4 + 1) (fun x2_13 => (fX11_lands_L2 n x1_3 x2_13 σ_12))))) else none) else (if ix x2_4 6 then (lt (stA σ_6 48 x2_4 x3_7) (fun σ_15 => (lt (x2_4 + 1) (fun x2_16 => (fX11_lands_L2 n x1_3 x2_16 σ_15))))) else none)) else (if ix x2_4 6 then (lt (stA σ_6 48 x2_4 ((0 : Int32))) (fun σ_18 => (lt (x2_4 + 1) (fun x2_19 => (fX11_lands_L2 n x1_3 x2_19 σ_18))))) else none)) else none)))) (fun j27 => (if x1 = 0 then (if ix x2 6 then (j27 x1 x2 (ldA σ 22 x2) σ) else none) else (if ix x2 6 then (j27 x1 x2 (ldA σ 23 x2) σ) else none)))))
def fX11_lands (n : Nat) (x1 : Int32) (σ : ST) : Option (ST) :=
  (lt ((0 : Int32)) (fun x2_1 => (fX11_lands_L2 n x1 x2_1 σ)))
section WK
variable {p : Program} {l : Launch} {e : Env} {R : Room} {s : State} {m : MethodId} {args : Array Value} {below : List Frame} {meth : Method} {c : Code} {Q : State → Prop}
variable {D : va_G} {ad : Nat → Nat} {cI cJ cB cZ : ClassId} {A : Nat → Prop} {cc : ByteArray} {nL lev : Nat}
variable {σ : ST} {pc : Nat} {lv : List (Nat × Value)} {st : List Value}
set_option maxHeartbeats 4000000 in
set_option maxRecDepth 100000 in
theorem kX11_lands_L2 (C : Ctx p l e (rmL 0) s m args below meth c D (tyz cI cJ cB cZ) (wM ad cI cJ cB cZ) A cX11_lands 4 0 RX11) (hr : meth.sig.returnType = none) {res : ST}   : ∀ (n : Nat) (x1 : Int32) (x2 : Int32) (σ : ST), fX11_lands_L2 n x1 x2 σ = some res → G p l e (rmL 0) s m args below meth c (MQ below (Qv D (tyz cI cJ cB cZ) (wM ad cI cJ cB cZ) A res) args s 0 0 A) D (wM ad cI cJ cB cZ) A 4 σ 2 [(0, .ref (ad 0)), (1, .int x1), (2, .int x2)] [] := by
  intro n
  induction n with
  | zero => intro x1 x2 σ h; have h : none = some res := h; cases h
  | succ n ih =>
    intro x1 x2 σ h
    rw [fX11_lands_L2] at h
    refine g_iload_n C dX11_lands_2 rfl 2 rfl 3 rfl ?_
    refine g_bipush C (v := 6) dX11_lands_3 (by decide) 5 rfl ?_
    refine g_icmp_ge C 71 dX11_lands_5 (by decide) 8 rfl (fun c_2 => ?_) (fun c_2 => ?_)
    · have h := o_pos h c_2
      exact g_vret C hr dX11_lands_71 h
    · have h := o_neg h c_2
      refine g_iload_n C dX11_lands_8 rfl 1 rfl 9 rfl ?_
      obtain ⟨j27, ej27, h⟩ := o_lt h
      have hj27 : ∀ (x1_3 : Int32) (x2_4 : Int32) (v_5 : Int32) (σ_6 : ST), j27 x1_3 x2_4 v_5 σ_6 = some res → G p l e (rmL 0) s m args below meth c (MQ below (Qv D (tyz cI cJ cB cZ) (wM ad cI cJ cB cZ) A res) args s 0 0 A) D (wM ad cI cJ cB cZ) A 4 σ_6 27 [(0, .ref (ad 0)), (1, .int x1_3), (2, .int x2_4)] [.int v_5] := by
        intro x1_3 x2_4 v_5 σ_6 h
        rw [ej27] at h
        obtain ⟨x3_7, ex3_7, h⟩ := o_lt h
        refine g_istore_n C (lv' := [(3, .int x3_7), (0, .ref (ad 0)), (1, .int x1_3), (2, .int x2_4)]) ex3_7 dX11_lands_27 rfl (by decide) rfl 28 rfl ?_
        refine g_aload_n C dX11_lands_28 rfl 1 rfl 29 rfl ?_
        refine wgX11_161_0 C dX11_lands_29 32 rfl ?_
        refine g_iload_n C dX11_lands_32 rfl 3 rfl 33 rfl ?_
        refine g_aload_n C dX11_lands_33 rfl 1 rfl 34 rfl ?_
        refine wgX11_89_0 C dX11_lands_34 37 rfl ?_
        refine g_iload_n C dX11_lands_37 rfl 3 rfl 38 rfl ?_
        obtain ⟨c_8, h⟩ := o_chk h
        refine wlM_24 C c_8 dX11_lands_38 39 rfl ?_
        refine g_if_le C 46 dX11_lands_39 (by decide) 42 rfl (fun c_9 => ?_) (fun c_9 => ?_)
        · have h := o_pos h c_9
          refine g_iload_n C dX11_lands_46 rfl 0 rfl 47 rfl ?_
          refine g_aload_n C dX11_lands_47 rfl 1 rfl 48 rfl ?_
          refine wgX11_314_0 C dX11_lands_48 51 rfl ?_
          refine g_icmp_le C 58 dX11_lands_51 (by decide) 54 rfl (fun c_10 => ?_) (fun c_10 => ?_)
          · have h := o_pos h c_10
            refine g_aload_n C dX11_lands_58 rfl 1 rfl 59 rfl ?_
            refine wgX11_314_0 C dX11_lands_59 62 rfl ?_
            refine g_iconst C (v := 1) dX11_lands_62 (by decide) 63 rfl ?_
            refine g_iadd C dX11_lands_63 64 rfl ?_
            obtain ⟨c_11, h⟩ := o_chk h
            obtain ⟨σ_12, eσ_12, h⟩ := o_lt h
            refine wtM_48 C eσ_12 c_11 dX11_lands_64 65 rfl ?_
            obtain ⟨x2_13, ex2_13, h⟩ := o_lt h
            refine g_iinc C (lv' := [(2, .int x2_13), (3, .int x3_7), (0, .ref (ad 0)), (1, .int x1_3)]) ex2_13 dX11_lands_65 3 rfl (by decide) (by decide) rfl 68 rfl ?_
            refine g_goto C 2 dX11_lands_68 (by decide) ?_
            exact g_sub C [2, 3, 0] rfl (ih x1_3 x2_13 σ_12 h)
          · have h := o_neg h c_10
            refine g_iload_n C dX11_lands_54 rfl 0 rfl 55 rfl ?_
            refine g_goto C 64 dX11_lands_55 (by decide) ?_
            obtain ⟨c_14, h⟩ := o_chk h
            obtain ⟨σ_15, eσ_15, h⟩ := o_lt h
            refine wtM_48 C eσ_15 c_14 dX11_lands_64 65 rfl ?_
            obtain ⟨x2_16, ex2_16, h⟩ := o_lt h
            refine g_iinc C (lv' := [(2, .int x2_16), (3, .int x3_7), (0, .ref (ad 0)), (1, .int x1_3)]) ex2_16 dX11_lands_65 3 rfl (by decide) (by decide) rfl 68 rfl ?_
            refine g_goto C 2 dX11_lands_68 (by decide) ?_
            exact g_sub C [2, 3, 0] rfl (ih x1_3 x2_16 σ_15 h)
        · have h := o_neg h c_9
          refine g_iconst C (v := 0) dX11_lands_42 (by decide) 43 rfl ?_
          refine g_goto C 64 dX11_lands_43 (by decide) ?_
          obtain ⟨c_17, h⟩ := o_chk h
          obtain ⟨σ_18, eσ_18, h⟩ := o_lt h
          refine wtM_48 C eσ_18 c_17 dX11_lands_64 65 rfl ?_
          obtain ⟨x2_19, ex2_19, h⟩ := o_lt h
          refine g_iinc C (lv' := [(2, .int x2_19), (3, .int x3_7), (0, .ref (ad 0)), (1, .int x1_3)]) ex2_19 dX11_lands_65 3 rfl (by decide) (by decide) rfl 68 rfl ?_
          refine g_goto C 2 dX11_lands_68 (by decide) ?_
          exact g_sub C [2, 3, 0] rfl (ih x1_3 x2_19 σ_18 h)
      refine g_if_eq C 21 dX11_lands_9 (by decide) 12 rfl (fun c_20 => ?_) (fun c_20 => ?_)
      · have h := o_pos h c_20
        refine g_aload_n C dX11_lands_21 rfl 0 rfl 22 rfl ?_
        refine wgX11_83_0 C dX11_lands_22 25 rfl ?_
        refine g_iload_n C dX11_lands_25 rfl 2 rfl 26 rfl ?_
        obtain ⟨c_21, h⟩ := o_chk h
        refine wlM_22 C c_21 dX11_lands_26 27 rfl ?_
        exact g_sub C [0, 1, 2] rfl (hj27 x1 x2 (ldA σ 22 x2) σ h)
      · have h := o_neg h c_20
        refine g_aload_n C dX11_lands_12 rfl 0 rfl 13 rfl ?_
        refine wgX11_86_0 C dX11_lands_13 16 rfl ?_
        refine g_iload_n C dX11_lands_16 rfl 2 rfl 17 rfl ?_
        obtain ⟨c_22, h⟩ := o_chk h
        refine wlM_23 C c_22 dX11_lands_17 18 rfl ?_
        refine g_goto C 27 dX11_lands_18 (by decide) ?_
        exact g_sub C [0, 1, 2] rfl (hj27 x1 x2 (ldA σ 23 x2) σ h)
set_option maxHeartbeats 4000000 in
set_option maxRecDepth 100000 in
theorem kX11_lands {l : Launch} {D : va_G} {ad : Nat → Nat} {cI cJ cB cZ : ClassId}  {n : Nat} {x1 : Int32} {σ : ST} {res : ST} (h : fX11_lands n x1 σ = some res) : CMv l D (tyz cI cJ cB cZ) (wM ad cI cJ cB cZ) 0 yX11_lands cX11_lands 4 none [.ref (ad 0), .int x1] σ res := by
  refine cmv_body (own := RX11) (lv := [(0, .ref (ad 0)), (1, .int x1)]) (by decide) rfl (wM_addr _ _ _ _ _) (Nat.le_of_ble_eq_true rfl) rfl (fun p e s m args below meth c A C hr => ?_)
  unfold fX11_lands at h
  refine g_iconst C (v := 0) dX11_lands_0 (by decide) 1 rfl ?_
  obtain ⟨x2_1, ex2_1, h⟩ := o_lt h
  refine g_istore_n C (lv' := [(2, .int x2_1), (0, .ref (ad 0)), (1, .int x1)]) ex2_1 dX11_lands_1 rfl (by decide) rfl 2 rfl ?_
  exact g_sub C [1, 2, 0] rfl (kX11_lands_L2 C hr  n x1 x2_1 σ h)
end WK
/-! X11_mayBegin private boolean mayBegin(int, int); -/
def fX11_mayBegin_L14 (k40 : Int32 → Int32 → ST → Option (Int32 × ST)) : Nat → Int32 → Int32 → Int32 → ST → Option (Int32 × ST)
  | 0, _, _, _, _ => none
  | n + 1, x1, x2, x3, σ => (if (gI σ 19) ≤ x3 then (k40 x1 x2 σ) else (if ix x3 3 then (if (ldA σ 46 x3) = x1 then (some ((0 : Int32), σ)) else (lt (x3 + 1) (fun x3_7 => (fX11_mayBegin_L14 k40 n x1 x2 x3_7 σ)))) else none))
def fX11_mayBegin_L42 (k88 : Int32 → ST → Option (Int32 × ST)) : Nat → Int32 → Int32 → Int32 → ST → Option (Int32 × ST)
  | 0, _, _, _, _ => none
  | n + 1, x1, x2, x3, σ => (if ((6 : Int32)) ≤ x3 then (k88 x1 σ) else (if ix ((((7 : Int32)) * (gI σ 11)) + x1) 14 then (if (((ldA σ 16 ((((7 : Int32)) * (gI σ 11)) + x1)) >>> (x3 &&& 31)) &&& ((1 : Int32))) = ((1 : Int32)) then (if ix x3 6 then (if (ldA σ 48 x3) ≤ x2 then (lt (x3 + 1) (fun x3_18 => (fX11_mayBegin_L42 k88 n x1 x2 x3_18 σ))) else (some ((0 : Int32), σ))) else none) else (lt (x3 + 1) (fun x3_15 => (fX11_mayBegin_L42 k88 n x1 x2 x3_15 σ)))) else none))
def fX11_mayBegin_L90  : Nat → Int32 → Int32 → ST → Option (Int32 × ST)
  | 0, _, _, _ => none
  | n + 1, x1, x3, σ => (if x1 ≤ x3 then (some ((1 : Int32), σ)) else (if ix ((((7 : Int32)) * (gI σ 11)) + x1) 14 then (if (((ldA σ 17 ((((7 : Int32)) * (gI σ 11)) + x1)) >>> (x3 &&& 31)) &&& ((1 : Int32))) = ((1 : Int32)) then (if ix x3 7 then (if (ldA σ 45 x3) = ((-1 : Int32)) then (some ((0 : Int32), σ)) else (lt (x3 + 1) (fun x3_28 => (fX11_mayBegin_L90 n x1 x3_28 σ)))) else none) else (lt (x3 + 1) (fun x3_25 => (fX11_mayBegin_L90 n x1 x3_25 σ)))) else none))
def fX11_mayBegin (n : Nat) (x1 : Int32) (x2 : Int32) (σ : ST) : Option (Int32 × ST) :=
  (if ix x1 7 then (if (ldA σ 45 x1) = ((-1 : Int32)) then (lt ((0 : Int32)) (fun x3_3 => (fX11_mayBegin_L14 (fun (x1_8 : Int32) (x2_9 : Int32) (σ_10 : ST) => (lt ((0 : Int32)) (fun x3_11 => (fX11_mayBegin_L42 (fun (x1_19 : Int32) (σ_20 : ST) => (lt ((0 : Int32)) (fun x3_21 => (fX11_mayBegin_L90 n x1_19 x3_21 σ_20)))) n x1_8 x2_9 x3_11 σ_10)))) n x1 x2 x3_3 σ))) else (some ((0 : Int32), σ))) else none)
section WK
variable {p : Program} {l : Launch} {e : Env} {R : Room} {s : State} {m : MethodId} {args : Array Value} {below : List Frame} {meth : Method} {c : Code} {Q : State → Prop}
variable {D : va_G} {ad : Nat → Nat} {cI cJ cB cZ : ClassId} {A : Nat → Prop} {cc : ByteArray} {nL lev : Nat}
variable {σ : ST} {pc : Nat} {lv : List (Nat × Value)} {st : List Value}
set_option maxHeartbeats 4000000 in
set_option maxRecDepth 100000 in
theorem kX11_mayBegin_L14 (C : Ctx p l e (rmL 0) s m args below meth c D (tyz cI cJ cB cZ) (wM ad cI cJ cB cZ) A cX11_mayBegin 4 0 RX11) (hr : meth.sig.returnType = some .boolean) {res : Int32 × ST} {k40 : Int32 → Int32 → ST → Option (Int32 × ST)} (hk40 : ∀ (x1 : Int32) (x2 : Int32) (σ : ST), k40 x1 x2 σ = some res → G p l e (rmL 0) s m args below meth c (MQ below (Qi D (tyz cI cJ cB cZ) (wM ad cI cJ cB cZ) A res) args s 0 0 A) D (wM ad cI cJ cB cZ) A 4 σ 40 [(0, .ref (ad 0)), (1, .int x1), (2, .int x2)] []) : ∀ (n : Nat) (x1 : Int32) (x2 : Int32) (x3 : Int32) (σ : ST), fX11_mayBegin_L14 k40 n x1 x2 x3 σ = some res → G p l e (rmL 0) s m args below meth c (MQ below (Qi D (tyz cI cJ cB cZ) (wM ad cI cJ cB cZ) A res) args s 0 0 A) D (wM ad cI cJ cB cZ) A 4 σ 14 [(0, .ref (ad 0)), (1, .int x1), (2, .int x2), (3, .int x3)] [] := by
  intro n
  induction n with
  | zero => intro x1 x2 x3 σ h; have h : none = some res := h; cases h
  | succ n ih =>
    intro x1 x2 x3 σ h
    rw [fX11_mayBegin_L14] at h
    refine g_iload_n C dX11_mayBegin_14 rfl 3 rfl 15 rfl ?_
    refine g_aload_n C dX11_mayBegin_15 rfl 0 rfl 16 rfl ?_
    refine wgX11_168_0 C dX11_mayBegin_16 19 rfl ?_
    refine g_icmp_ge C 40 dX11_mayBegin_19 (by decide) 22 rfl (fun c_4 => ?_) (fun c_4 => ?_)
    · have h := o_pos h c_4
      exact g_sub C [0, 1, 2] rfl (hk40 x1 x2 σ h)
    · have h := o_neg h c_4
      refine g_aload_n C dX11_mayBegin_22 rfl 0 rfl 23 rfl ?_
      refine wgX11_155_0 C dX11_mayBegin_23 26 rfl ?_
      refine g_iload_n C dX11_mayBegin_26 rfl 3 rfl 27 rfl ?_
      obtain ⟨c_5, h⟩ := o_chk h
      refine wlM_46 C c_5 dX11_mayBegin_27 28 rfl ?_
      refine g_iload_n C dX11_mayBegin_28 rfl 1 rfl 29 rfl ?_
      refine g_icmp_ne C 34 dX11_mayBegin_29 (by decide) 32 rfl (fun c_6 => ?_) (fun c_6 => ?_)
      · have h := o_neg h c_6
        obtain ⟨x3_7, ex3_7, h⟩ := o_lt h
        refine g_iinc C (lv' := [(3, .int x3_7), (0, .ref (ad 0)), (1, .int x1), (2, .int x2)]) ex3_7 dX11_mayBegin_34 3 rfl (by decide) (by decide) rfl 37 rfl ?_
        refine g_goto C 14 dX11_mayBegin_37 (by decide) ?_
        exact g_sub C [1, 2, 3, 0] rfl (ih x1 x2 x3_7 σ h)
      · have h := o_pos h c_6
        refine g_iconst C (v := 0) dX11_mayBegin_32 (by decide) 33 rfl ?_
        exact g_zret C hr (by decide) dX11_mayBegin_33 h
set_option maxHeartbeats 4000000 in
set_option maxRecDepth 100000 in
theorem kX11_mayBegin_L42 (C : Ctx p l e (rmL 0) s m args below meth c D (tyz cI cJ cB cZ) (wM ad cI cJ cB cZ) A cX11_mayBegin 4 0 RX11) (hr : meth.sig.returnType = some .boolean) {res : Int32 × ST} {k88 : Int32 → ST → Option (Int32 × ST)} (hk88 : ∀ (x1 : Int32) (σ : ST), k88 x1 σ = some res → G p l e (rmL 0) s m args below meth c (MQ below (Qi D (tyz cI cJ cB cZ) (wM ad cI cJ cB cZ) A res) args s 0 0 A) D (wM ad cI cJ cB cZ) A 4 σ 88 [(0, .ref (ad 0)), (1, .int x1)] []) : ∀ (n : Nat) (x1 : Int32) (x2 : Int32) (x3 : Int32) (σ : ST), fX11_mayBegin_L42 k88 n x1 x2 x3 σ = some res → G p l e (rmL 0) s m args below meth c (MQ below (Qi D (tyz cI cJ cB cZ) (wM ad cI cJ cB cZ) A res) args s 0 0 A) D (wM ad cI cJ cB cZ) A 4 σ 42 [(0, .ref (ad 0)), (1, .int x1), (2, .int x2), (3, .int x3)] [] := by
  intro n
  induction n with
  | zero => intro x1 x2 x3 σ h; have h : none = some res := h; cases h
  | succ n ih =>
    intro x1 x2 x3 σ h
    rw [fX11_mayBegin_L42] at h
    refine g_iload_n C dX11_mayBegin_42 rfl 3 rfl 43 rfl ?_
    refine g_bipush C (v := 6) dX11_mayBegin_43 (by decide) 45 rfl ?_
    refine g_icmp_ge C 88 dX11_mayBegin_45 (by decide) 48 rfl (fun c_12 => ?_) (fun c_12 => ?_)
    · have h := o_pos h c_12
      exact g_sub C [0, 1] rfl (hk88 x1 σ h)
    · have h := o_neg h c_12
      refine g_aload_n C dX11_mayBegin_48 rfl 0 rfl 49 rfl ?_
      refine wgX11_65_0 C dX11_mayBegin_49 52 rfl ?_
      refine g_bipush C (v := 7) dX11_mayBegin_52 (by decide) 54 rfl ?_
      refine g_aload_n C dX11_mayBegin_54 rfl 0 rfl 55 rfl ?_
      refine wgX11_234_0 C dX11_mayBegin_55 58 rfl ?_
      refine g_imul C dX11_mayBegin_58 59 rfl ?_
      refine g_iload_n C dX11_mayBegin_59 rfl 1 rfl 60 rfl ?_
      refine g_iadd C dX11_mayBegin_60 61 rfl ?_
      obtain ⟨c_13, h⟩ := o_chk h
      refine wlM_16 C c_13 dX11_mayBegin_61 62 rfl ?_
      refine g_iload_n C dX11_mayBegin_62 rfl 3 rfl 63 rfl ?_
      refine g_ishr C dX11_mayBegin_63 64 rfl ?_
      refine g_iconst C (v := 1) dX11_mayBegin_64 (by decide) 65 rfl ?_
      refine g_iand C dX11_mayBegin_65 66 rfl ?_
      refine g_iconst C (v := 1) dX11_mayBegin_66 (by decide) 67 rfl ?_
      refine g_icmp_ne C 82 dX11_mayBegin_67 (by decide) 70 rfl (fun c_14 => ?_) (fun c_14 => ?_)
      · have h := o_neg h c_14
        obtain ⟨x3_15, ex3_15, h⟩ := o_lt h
        refine g_iinc C (lv' := [(3, .int x3_15), (0, .ref (ad 0)), (1, .int x1), (2, .int x2)]) ex3_15 dX11_mayBegin_82 3 rfl (by decide) (by decide) rfl 85 rfl ?_
        refine g_goto C 42 dX11_mayBegin_85 (by decide) ?_
        exact g_sub C [1, 2, 3, 0] rfl (ih x1 x2 x3_15 σ h)
      · have h := o_pos h c_14
        refine g_aload_n C dX11_mayBegin_70 rfl 0 rfl 71 rfl ?_
        refine wgX11_161_0 C dX11_mayBegin_71 74 rfl ?_
        refine g_iload_n C dX11_mayBegin_74 rfl 3 rfl 75 rfl ?_
        obtain ⟨c_16, h⟩ := o_chk h
        refine wlM_48 C c_16 dX11_mayBegin_75 76 rfl ?_
        refine g_iload_n C dX11_mayBegin_76 rfl 2 rfl 77 rfl ?_
        refine g_icmp_le C 82 dX11_mayBegin_77 (by decide) 80 rfl (fun c_17 => ?_) (fun c_17 => ?_)
        · have h := o_pos h c_17
          obtain ⟨x3_18, ex3_18, h⟩ := o_lt h
          refine g_iinc C (lv' := [(3, .int x3_18), (0, .ref (ad 0)), (1, .int x1), (2, .int x2)]) ex3_18 dX11_mayBegin_82 3 rfl (by decide) (by decide) rfl 85 rfl ?_
          refine g_goto C 42 dX11_mayBegin_85 (by decide) ?_
          exact g_sub C [1, 2, 3, 0] rfl (ih x1 x2 x3_18 σ h)
        · have h := o_neg h c_17
          refine g_iconst C (v := 0) dX11_mayBegin_80 (by decide) 81 rfl ?_
          exact g_zret C hr (by decide) dX11_mayBegin_81 h
set_option maxHeartbeats 4000000 in
set_option maxRecDepth 100000 in
theorem kX11_mayBegin_L90 (C : Ctx p l e (rmL 0) s m args below meth c D (tyz cI cJ cB cZ) (wM ad cI cJ cB cZ) A cX11_mayBegin 4 0 RX11) (hr : meth.sig.returnType = some .boolean) {res : Int32 × ST}   : ∀ (n : Nat) (x1 : Int32) (x3 : Int32) (σ : ST), fX11_mayBegin_L90 n x1 x3 σ = some res → G p l e (rmL 0) s m args below meth c (MQ below (Qi D (tyz cI cJ cB cZ) (wM ad cI cJ cB cZ) A res) args s 0 0 A) D (wM ad cI cJ cB cZ) A 4 σ 90 [(0, .ref (ad 0)), (1, .int x1), (3, .int x3)] [] := by
  intro n
  induction n with
  | zero => intro x1 x3 σ h; have h : none = some res := h; cases h
  | succ n ih =>
    intro x1 x3 σ h
    rw [fX11_mayBegin_L90] at h
    refine g_iload_n C dX11_mayBegin_90 rfl 2 rfl 91 rfl ?_
    refine g_iload_n C dX11_mayBegin_91 rfl 1 rfl 92 rfl ?_
    refine g_icmp_ge C 135 dX11_mayBegin_92 (by decide) 95 rfl (fun c_22 => ?_) (fun c_22 => ?_)
    · have h := o_pos h c_22
      refine g_iconst C (v := 1) dX11_mayBegin_135 (by decide) 136 rfl ?_
      exact g_zret C hr (by decide) dX11_mayBegin_136 h
    · have h := o_neg h c_22
      refine g_aload_n C dX11_mayBegin_95 rfl 0 rfl 96 rfl ?_
      refine wgX11_68_0 C dX11_mayBegin_96 99 rfl ?_
      refine g_bipush C (v := 7) dX11_mayBegin_99 (by decide) 101 rfl ?_
      refine g_aload_n C dX11_mayBegin_101 rfl 0 rfl 102 rfl ?_
      refine wgX11_234_0 C dX11_mayBegin_102 105 rfl ?_
      refine g_imul C dX11_mayBegin_105 106 rfl ?_
      refine g_iload_n C dX11_mayBegin_106 rfl 1 rfl 107 rfl ?_
      refine g_iadd C dX11_mayBegin_107 108 rfl ?_
      obtain ⟨c_23, h⟩ := o_chk h
      refine wlM_17 C c_23 dX11_mayBegin_108 109 rfl ?_
      refine g_iload_n C dX11_mayBegin_109 rfl 2 rfl 110 rfl ?_
      refine g_ishr C dX11_mayBegin_110 111 rfl ?_
      refine g_iconst C (v := 1) dX11_mayBegin_111 (by decide) 112 rfl ?_
      refine g_iand C dX11_mayBegin_112 113 rfl ?_
      refine g_iconst C (v := 1) dX11_mayBegin_113 (by decide) 114 rfl ?_
      refine g_icmp_ne C 129 dX11_mayBegin_114 (by decide) 117 rfl (fun c_24 => ?_) (fun c_24 => ?_)
      · have h := o_neg h c_24
        obtain ⟨x3_25, ex3_25, h⟩ := o_lt h
        refine g_iinc C (lv' := [(3, .int x3_25), (0, .ref (ad 0)), (1, .int x1)]) ex3_25 dX11_mayBegin_129 2 rfl (by decide) (by decide) rfl 132 rfl ?_
        refine g_goto C 90 dX11_mayBegin_132 (by decide) ?_
        exact g_sub C [1, 2, 0] rfl (ih x1 x3_25 σ h)
      · have h := o_pos h c_24
        refine g_aload_n C dX11_mayBegin_117 rfl 0 rfl 118 rfl ?_
        refine wgX11_152_0 C dX11_mayBegin_118 121 rfl ?_
        refine g_iload_n C dX11_mayBegin_121 rfl 2 rfl 122 rfl ?_
        obtain ⟨c_26, h⟩ := o_chk h
        refine wlM_45 C c_26 dX11_mayBegin_122 123 rfl ?_
        refine g_iconst C (v := -1) dX11_mayBegin_123 (by decide) 124 rfl ?_
        refine g_icmp_ne C 129 dX11_mayBegin_124 (by decide) 127 rfl (fun c_27 => ?_) (fun c_27 => ?_)
        · have h := o_neg h c_27
          obtain ⟨x3_28, ex3_28, h⟩ := o_lt h
          refine g_iinc C (lv' := [(3, .int x3_28), (0, .ref (ad 0)), (1, .int x1)]) ex3_28 dX11_mayBegin_129 2 rfl (by decide) (by decide) rfl 132 rfl ?_
          refine g_goto C 90 dX11_mayBegin_132 (by decide) ?_
          exact g_sub C [1, 2, 0] rfl (ih x1 x3_28 σ h)
        · have h := o_pos h c_27
          refine g_iconst C (v := 0) dX11_mayBegin_127 (by decide) 128 rfl ?_
          exact g_zret C hr (by decide) dX11_mayBegin_128 h
set_option maxHeartbeats 4000000 in
set_option maxRecDepth 100000 in
theorem kX11_mayBegin {l : Launch} {D : va_G} {ad : Nat → Nat} {cI cJ cB cZ : ClassId}  {n : Nat} {x1 : Int32} {x2 : Int32} {σ : ST} {res : Int32 × ST} (h : fX11_mayBegin n x1 x2 σ = some res) : CMi l D (tyz cI cJ cB cZ) (wM ad cI cJ cB cZ) 0 yX11_mayBegin cX11_mayBegin 4 (some .boolean) [.ref (ad 0), .int x1, .int x2] σ res := by
  refine cmi_body (own := RX11) (lv := [(0, .ref (ad 0)), (1, .int x1), (2, .int x2)]) (by decide) rfl (wM_addr _ _ _ _ _) (Nat.le_of_ble_eq_true rfl) rfl (fun p e s m args below meth c A C hr => ?_)
  unfold fX11_mayBegin at h
  refine g_aload_n C dX11_mayBegin_0 rfl 0 rfl 1 rfl ?_
  refine wgX11_152_0 C dX11_mayBegin_1 4 rfl ?_
  refine g_iload_n C dX11_mayBegin_4 rfl 1 rfl 5 rfl ?_
  obtain ⟨c_1, h⟩ := o_chk h
  refine wlM_45 C c_1 dX11_mayBegin_5 6 rfl ?_
  refine g_iconst C (v := -1) dX11_mayBegin_6 (by decide) 7 rfl ?_
  refine g_icmp_eq C 12 dX11_mayBegin_7 (by decide) 10 rfl (fun c_2 => ?_) (fun c_2 => ?_)
  · have h := o_pos h c_2
    refine g_iconst C (v := 0) dX11_mayBegin_12 (by decide) 13 rfl ?_
    obtain ⟨x3_3, ex3_3, h⟩ := o_lt h
    refine g_istore_n C (lv' := [(3, .int x3_3), (0, .ref (ad 0)), (1, .int x1), (2, .int x2)]) ex3_3 dX11_mayBegin_13 rfl (by decide) rfl 14 rfl ?_
    exact g_sub C [1, 2, 3, 0] rfl (kX11_mayBegin_L14 C hr (fun x1_8 x2_9 σ_10 h => by
        refine g_iconst C (v := 0) dX11_mayBegin_40 (by decide) 41 rfl ?_
        obtain ⟨x3_11, ex3_11, h⟩ := o_lt h
        refine g_istore_n C (lv' := [(3, .int x3_11), (0, .ref (ad 0)), (1, .int x1_8), (2, .int x2_9)]) ex3_11 dX11_mayBegin_41 rfl (by decide) rfl 42 rfl ?_
        exact g_sub C [1, 2, 3, 0] rfl (kX11_mayBegin_L42 C hr (fun x1_19 σ_20 h => by
            refine g_iconst C (v := 0) dX11_mayBegin_88 (by decide) 89 rfl ?_
            obtain ⟨x3_21, ex3_21, h⟩ := o_lt h
            refine g_istore_n C (lv' := [(3, .int x3_21), (0, .ref (ad 0)), (1, .int x1_19)]) ex3_21 dX11_mayBegin_89 rfl (by decide) rfl 90 rfl ?_
            exact g_sub C [1, 2, 0] rfl (kX11_mayBegin_L90 C hr  n x1_19 x3_21 σ_20 h)) n x1_8 x2_9 x3_11 σ_10 h)) n x1 x2 x3_3 σ h)
  · have h := o_neg h c_2
    refine g_iconst C (v := 0) dX11_mayBegin_10 (by decide) 11 rfl ?_
    exact g_zret C hr (by decide) dX11_mayBegin_11 h
end WK
/-! X11_landsBehind private int landsBehind(int); -/
def fX11_landsBehind_L6  : Nat → Int32 → Int32 → Int32 → ST → Option (Int32 × ST)
  | 0, _, _, _, _ => none
  | n + 1, x1, x2, x3, σ => (if ((6 : Int32)) ≤ x3 then (some (x2, σ)) else (if ix x3 6 then (if (ldA σ 48 x3) ≤ x1 then (lt (x3 + 1) (fun x3_6 => (fX11_landsBehind_L6 n x1 x2 x3_6 σ))) else (if ix x3 6 then (if x2 ≤ (ldA σ 48 x3) then (lt (x3 + 1) (fun x3_9 => (fX11_landsBehind_L6 n x1 x2 x3_9 σ))) else (if ix x3 6 then (lt (ldA σ 48 x3) (fun x2_11 => (lt (x3 + 1) (fun x3_12 => (fX11_landsBehind_L6 n x1 x2_11 x3_12 σ))))) else none)) else none)) else none))
def fX11_landsBehind (n : Nat) (x1 : Int32) (σ : ST) : Option (Int32 × ST) :=
  (lt ((401 : Int32)) (fun x2_1 => (lt ((0 : Int32)) (fun x3_2 => (fX11_landsBehind_L6 n x1 x2_1 x3_2 σ)))))
section WK
variable {p : Program} {l : Launch} {e : Env} {R : Room} {s : State} {m : MethodId} {args : Array Value} {below : List Frame} {meth : Method} {c : Code} {Q : State → Prop}
variable {D : va_G} {ad : Nat → Nat} {cI cJ cB cZ : ClassId} {A : Nat → Prop} {cc : ByteArray} {nL lev : Nat}
variable {σ : ST} {pc : Nat} {lv : List (Nat × Value)} {st : List Value}
set_option maxHeartbeats 4000000 in
set_option maxRecDepth 100000 in
theorem kX11_landsBehind_L6 (C : Ctx p l e (rmL 0) s m args below meth c D (tyz cI cJ cB cZ) (wM ad cI cJ cB cZ) A cX11_landsBehind 4 0 RX11) (hr : meth.sig.returnType = some .int) {res : Int32 × ST}   : ∀ (n : Nat) (x1 : Int32) (x2 : Int32) (x3 : Int32) (σ : ST), fX11_landsBehind_L6 n x1 x2 x3 σ = some res → G p l e (rmL 0) s m args below meth c (MQ below (Qi D (tyz cI cJ cB cZ) (wM ad cI cJ cB cZ) A res) args s 0 0 A) D (wM ad cI cJ cB cZ) A 4 σ 6 [(0, .ref (ad 0)), (1, .int x1), (2, .int x2), (3, .int x3)] [] := by
  intro n
  induction n with
  | zero => intro x1 x2 x3 σ h; have h : none = some res := h; cases h
  | succ n ih =>
    intro x1 x2 x3 σ h
    rw [fX11_landsBehind_L6] at h
    refine g_iload_n C dX11_landsBehind_6 rfl 3 rfl 7 rfl ?_
    refine g_bipush C (v := 6) dX11_landsBehind_7 (by decide) 9 rfl ?_
    refine g_icmp_ge C 45 dX11_landsBehind_9 (by decide) 12 rfl (fun c_3 => ?_) (fun c_3 => ?_)
    · have h := o_pos h c_3
      refine g_iload_n C dX11_landsBehind_45 rfl 2 rfl 46 rfl ?_
      exact g_iret C hr dX11_landsBehind_46 h
    · have h := o_neg h c_3
      refine g_aload_n C dX11_landsBehind_12 rfl 0 rfl 13 rfl ?_
      refine wgX11_161_0 C dX11_landsBehind_13 16 rfl ?_
      refine g_iload_n C dX11_landsBehind_16 rfl 3 rfl 17 rfl ?_
      obtain ⟨c_4, h⟩ := o_chk h
      refine wlM_48 C c_4 dX11_landsBehind_17 18 rfl ?_
      refine g_iload_n C dX11_landsBehind_18 rfl 1 rfl 19 rfl ?_
      refine g_icmp_le C 39 dX11_landsBehind_19 (by decide) 22 rfl (fun c_5 => ?_) (fun c_5 => ?_)
      · have h := o_pos h c_5
        obtain ⟨x3_6, ex3_6, h⟩ := o_lt h
        refine g_iinc C (lv' := [(3, .int x3_6), (0, .ref (ad 0)), (1, .int x1), (2, .int x2)]) ex3_6 dX11_landsBehind_39 3 rfl (by decide) (by decide) rfl 42 rfl ?_
        refine g_goto C 6 dX11_landsBehind_42 (by decide) ?_
        exact g_sub C [1, 2, 3, 0] rfl (ih x1 x2 x3_6 σ h)
      · have h := o_neg h c_5
        refine g_aload_n C dX11_landsBehind_22 rfl 0 rfl 23 rfl ?_
        refine wgX11_161_0 C dX11_landsBehind_23 26 rfl ?_
        refine g_iload_n C dX11_landsBehind_26 rfl 3 rfl 27 rfl ?_
        obtain ⟨c_7, h⟩ := o_chk h
        refine wlM_48 C c_7 dX11_landsBehind_27 28 rfl ?_
        refine g_iload_n C dX11_landsBehind_28 rfl 2 rfl 29 rfl ?_
        refine g_icmp_ge C 39 dX11_landsBehind_29 (by decide) 32 rfl (fun c_8 => ?_) (fun c_8 => ?_)
        · have h := o_pos h c_8
          obtain ⟨x3_9, ex3_9, h⟩ := o_lt h
          refine g_iinc C (lv' := [(3, .int x3_9), (0, .ref (ad 0)), (1, .int x1), (2, .int x2)]) ex3_9 dX11_landsBehind_39 3 rfl (by decide) (by decide) rfl 42 rfl ?_
          refine g_goto C 6 dX11_landsBehind_42 (by decide) ?_
          exact g_sub C [1, 2, 3, 0] rfl (ih x1 x2 x3_9 σ h)
        · have h := o_neg h c_8
          refine g_aload_n C dX11_landsBehind_32 rfl 0 rfl 33 rfl ?_
          refine wgX11_161_0 C dX11_landsBehind_33 36 rfl ?_
          refine g_iload_n C dX11_landsBehind_36 rfl 3 rfl 37 rfl ?_
          obtain ⟨c_10, h⟩ := o_chk h
          refine wlM_48 C c_10 dX11_landsBehind_37 38 rfl ?_
          obtain ⟨x2_11, ex2_11, h⟩ := o_lt h
          refine g_istore_n C (lv' := [(2, .int x2_11), (0, .ref (ad 0)), (1, .int x1), (3, .int x3)]) ex2_11 dX11_landsBehind_38 rfl (by decide) rfl 39 rfl ?_
          obtain ⟨x3_12, ex3_12, h⟩ := o_lt h
          refine g_iinc C (lv' := [(3, .int x3_12), (2, .int x2_11), (0, .ref (ad 0)), (1, .int x1)]) ex3_12 dX11_landsBehind_39 3 rfl (by decide) (by decide) rfl 42 rfl ?_
          refine g_goto C 6 dX11_landsBehind_42 (by decide) ?_
          exact g_sub C [2, 3, 1, 0] rfl (ih x1 x2_11 x3_12 σ h)
set_option maxHeartbeats 4000000 in
set_option maxRecDepth 100000 in
theorem kX11_landsBehind {l : Launch} {D : va_G} {ad : Nat → Nat} {cI cJ cB cZ : ClassId}  {n : Nat} {x1 : Int32} {σ : ST} {res : Int32 × ST} (h : fX11_landsBehind n x1 σ = some res) : CMi l D (tyz cI cJ cB cZ) (wM ad cI cJ cB cZ) 0 yX11_landsBehind cX11_landsBehind 4 (some .int) [.ref (ad 0), .int x1] σ res := by
  refine cmi_body (own := RX11) (lv := [(0, .ref (ad 0)), (1, .int x1)]) (by decide) rfl (wM_addr _ _ _ _ _) (Nat.le_of_ble_eq_true rfl) rfl (fun p e s m args below meth c A C hr => ?_)
  unfold fX11_landsBehind at h
  refine g_sipush C (v := 401) dX11_landsBehind_0 (by decide) 3 rfl ?_
  obtain ⟨x2_1, ex2_1, h⟩ := o_lt h
  refine g_istore_n C (lv' := [(2, .int x2_1), (0, .ref (ad 0)), (1, .int x1)]) ex2_1 dX11_landsBehind_3 rfl (by decide) rfl 4 rfl ?_
  refine g_iconst C (v := 0) dX11_landsBehind_4 (by decide) 5 rfl ?_
  obtain ⟨x3_2, ex3_2, h⟩ := o_lt h
  refine g_istore_n C (lv' := [(3, .int x3_2), (2, .int x2_1), (0, .ref (ad 0)), (1, .int x1)]) ex3_2 dX11_landsBehind_5 rfl (by decide) rfl 6 rfl ?_
  exact g_sub C [2, 3, 1, 0] rfl (kX11_landsBehind_L6 C hr  n x1 x2_1 x3_2 σ h)
end WK
/-! X11_foresees private void foresees(); -/
def fX11_foresees_L7 (k50 : ST → Option (ST)) : Nat → Int32 → ST → Option (ST)
  | 0, _, _ => none
  | n + 1, x1, σ => (if ix (gI σ 11) 2 then (if (ldA σ 8 (gI σ 11)) ≤ x1 then (k50 σ) else (if ix x1 7 then (if ix x1 7 then (lt (stA σ 45 x1 (ldA σ 35 x1)) (fun σ_7 => (if ix x1 7 then (if ix x1 7 then (lt (stA σ_7 47 x1 (ldA σ_7 37 x1)) (fun σ_10 => (lt (x1 + 1) (fun x1_11 => (fX11_foresees_L7 k50 n x1_11 σ_10))))) else none) else none))) else none) else none)) else none)
def fX11_foresees_L52 (k75 : ST → Option (ST)) : Nat → Int32 → ST → Option (ST)
  | 0, _, _ => none
  | n + 1, x1, σ => (if ((3 : Int32)) ≤ x1 then (k75 σ) else (if ix x1 3 then (if ix x1 3 then (lt (stA σ 46 x1 (ldA σ 33 x1)) (fun σ_17 => (lt (x1 + 1) (fun x1_18 => (fX11_foresees_L52 k75 n x1_18 σ_17))))) else none) else none))
def fX11_foresees_L101 (k171 : Int32 → Int32 → ST → Option (ST)) : Nat → Int32 → Int32 → Int32 → ST → Option (ST)
  | 0, _, _, _, _ => none
  | n + 1, x1, x2, x3, σ => (if ix (gI σ 11) 2 then (if (ldA σ 8 (gI σ 11)) ≤ x3 then (k171 x1 x2 σ) else (if ix x2 3 then (if (ldA σ 46 x2) = ((-1 : Int32)) then (if ix x3 7 then (Option.bind (fX11_mayBegin n (ldA σ 44 x3) x1 σ) (fun q_30 => (if q_30.1 = 0 then (lt (x3 + 1) (fun x3_39 => (fX11_foresees_L101 k171 n x1 x2 x3_39 q_30.2))) else (if ix x3 7 then (if ix x2 3 then (lt (stA q_30.2 46 x2 (ldA q_30.2 44 x3)) (fun σ_34 => (if ix x3 7 then (if ix (ldA σ_34 44 x3) 7 then (lt (stA σ_34 47 (ldA σ_34 44 x3) ((0 : Int32))) (fun σ_37 => (lt (x3 + 1) (fun x3_38 => (fX11_foresees_L101 k171 n x1 x2 x3_38 σ_37))))) else none) else none))) else none) else none)))) else none) else (k171 x1 x2 σ)) else none)) else none)
def fX11_foresees_L91 (k177 : Int32 → ST → Option (ST)) : Nat → Int32 → Int32 → ST → Option (ST)
  | 0, _, _, _ => none
  | n + 1, x1, x2, σ => (if (gI σ 19) ≤ x2 then (k177 x1 σ) else (lt ((0 : Int32)) (fun x3_24 => (fX11_foresees_L101 (fun (x1_40 : Int32) (x2_41 : Int32) (σ_42 : ST) => (lt (x2_41 + 1) (fun x2_43 => (fX11_foresees_L91 k177 n x1_40 x2_43 σ_42)))) n x1 x2 x3_24 σ))))
def fX11_foresees_L181 (k215 : Int32 → Int32 → ST → Option (ST)) : Nat → Int32 → Int32 → Int32 → ST → Option (ST)
  | 0, _, _, _, _ => none
  | n + 1, x1, x2, x3, σ => (if (gI σ 19) ≤ x3 then (k215 x1 x2 σ) else (if x2 = 0 then (if ix x3 3 then (if (ldA σ 46 x3) = ((-1 : Int32)) then (lt ((0 : Int32)) (fun x2_54 => (lt (x3 + 1) (fun x3_55 => (fX11_foresees_L181 k215 n x1 x2_54 x3_55 σ))))) else (lt ((1 : Int32)) (fun x2_56 => (lt (x3 + 1) (fun x3_57 => (fX11_foresees_L181 k215 n x1 x2_56 x3_57 σ)))))) else none) else (lt ((1 : Int32)) (fun x2_50 => (lt (x3 + 1) (fun x3_51 => (fX11_foresees_L181 k215 n x1 x2_50 x3_51 σ)))))))
def fX11_foresees_L232 (k317 : Int32 → ST → Option (ST)) : Nat → Int32 → Int32 → ST → Option (ST)
  | 0, _, _, _ => none
  | n + 1, x1, x3, σ => (if (gI σ 19) ≤ x3 then (k317 x1 σ) else (if ix x3 3 then (lt (ldA σ 46 x3) (fun x4_65 => (if x4_65 = ((-1 : Int32)) then (lt (x3 + 1) (fun x3_79 => (fX11_foresees_L232 k317 n x1 x3_79 σ))) else (if ix x4_65 7 then (if ix x4_65 7 then (lt (stA σ 47 x4_65 ((ldA σ 47 x4_65) + ((1 : Int32)))) (fun σ_69 => (if ix x4_65 7 then (if ix ((((7 : Int32)) * (gI σ_69 11)) + x4_65) 14 then (if (ldA σ_69 11 ((((7 : Int32)) * (gI σ_69 11)) + x4_65)) ≤ (ldA σ_69 47 x4_65) then (if ix x3 3 then (lt (stA σ_69 46 x3 ((-1 : Int32))) (fun σ_74 => (if ix x4_65 7 then (lt (stA σ_74 45 x4_65 x1) (fun σ_76 => (lt (x3 + 1) (fun x3_77 => (fX11_foresees_L232 k317 n x1 x3_77 σ_76))))) else none))) else none) else (lt (x3 + 1) (fun x3_78 => (fX11_foresees_L232 k317 n x1 x3_78 σ_69)))) else none) else none))) else none) else none)))) else none))
def fX11_foresees_L82 (k323 : ST → Option (ST)) : Nat → Int32 → ST → Option (ST)
  | 0, _, _ => none
  | n + 1, x1, σ => (if ((399 : Int32)) < x1 then (k323 σ) else (lt ((0 : Int32)) (fun x2_22 => (fX11_foresees_L91 (fun (x1_44 : Int32) (σ_45 : ST) => (lt ((0 : Int32)) (fun x2_46 => (lt ((0 : Int32)) (fun x3_47 => (fX11_foresees_L181 (fun (x1_58 : Int32) (x2_59 : Int32) (σ_60 : ST) => (if x2_59 = 0 then (Option.bind (fX11_landsBehind n x1_58 σ_60) (fun q_83 => (lt (q_83.1 - ((1 : Int32))) (fun x1_84 => (lt (x1_84 + 1) (fun x1_85 => (fX11_foresees_L82 k323 n x1_85 q_83.2))))))) else (lt ((0 : Int32)) (fun x3_62 => (fX11_foresees_L232 (fun (x1_80 : Int32) (σ_81 : ST) => (lt (x1_80 + 1) (fun x1_82 => (fX11_foresees_L82 k323 n x1_82 σ_81)))) n x1_58 x3_62 σ_60))))) n x1_44 x2_46 x3_47 σ_45)))))) n x1 x2_22 σ))))
def fX11_foresees_L325  : Nat → Int32 → ST → Option (ST)
  | 0, _, _ => none
  | n + 1, x1, σ => (if ix (gI σ 11) 2 then (if (ldA σ 8 (gI σ 11)) ≤ x1 then (some σ) else (if ix x1 7 then (if (ldA σ 45 x1) = ((-1 : Int32)) then (if ix x1 7 then (lt (stA σ 45 x1 ((400 : Int32))) (fun σ_94 => (lt (x1 + 1) (fun x1_95 => (fX11_foresees_L325 n x1_95 σ_94))))) else none) else (lt (x1 + 1) (fun x1_92 => (fX11_foresees_L325 n x1_92 σ)))) else none)) else none)
def fX11_foresees (n : Nat)  (σ : ST) : Option (ST) :=
  (Option.bind (fX11_lands n ((1 : Int32)) σ) (fun q_1 => (lt ((0 : Int32)) (fun x1_2 => (fX11_foresees_L7 (fun (σ_12 : ST) => (lt ((0 : Int32)) (fun x1_13 => (fX11_foresees_L52 (fun (σ_19 : ST) => (lt ((gI σ_19 18) + ((1 : Int32))) (fun x1_20 => (fX11_foresees_L82 (fun (σ_86 : ST) => (lt ((0 : Int32)) (fun x1_87 => (fX11_foresees_L325 n x1_87 σ_86)))) n x1_20 σ_19)))) n x1_13 σ_12)))) n x1_2 q_1)))))
section WK
variable {p : Program} {l : Launch} {e : Env} {R : Room} {s : State} {m : MethodId} {args : Array Value} {below : List Frame} {meth : Method} {c : Code} {Q : State → Prop}
variable {D : va_G} {ad : Nat → Nat} {cI cJ cB cZ : ClassId} {A : Nat → Prop} {cc : ByteArray} {nL lev : Nat}
variable {σ : ST} {pc : Nat} {lv : List (Nat × Value)} {st : List Value}
set_option maxHeartbeats 4000000 in
set_option maxRecDepth 100000 in
theorem kX11_foresees_L7 (C : Ctx p l e (rmL 1) s m args below meth c D (tyz cI cJ cB cZ) (wM ad cI cJ cB cZ) A cX11_foresees 5 1 RX11) (hr : meth.sig.returnType = none) {res : ST} {k50 : ST → Option (ST)} (hk50 : ∀ (σ : ST), k50 σ = some res → G p l e (rmL 1) s m args below meth c (MQ below (Qv D (tyz cI cJ cB cZ) (wM ad cI cJ cB cZ) A res) args s 0 0 A) D (wM ad cI cJ cB cZ) A 5 σ 50 [(0, .ref (ad 0))] []) : ∀ (n : Nat) (x1 : Int32) (σ : ST), fX11_foresees_L7 k50 n x1 σ = some res → G p l e (rmL 1) s m args below meth c (MQ below (Qv D (tyz cI cJ cB cZ) (wM ad cI cJ cB cZ) A res) args s 0 0 A) D (wM ad cI cJ cB cZ) A 5 σ 7 [(0, .ref (ad 0)), (1, .int x1)] [] := by
  intro n
  induction n with
  | zero => intro x1 σ h; have h : none = some res := h; cases h
  | succ n ih =>
    intro x1 σ h
    rw [fX11_foresees_L7] at h
    refine g_iload_n C dX11_foresees_7 rfl 1 rfl 8 rfl ?_
    refine g_aload_n C dX11_foresees_8 rfl 0 rfl 9 rfl ?_
    refine wgX11_40_0 C dX11_foresees_9 12 rfl ?_
    refine g_aload_n C dX11_foresees_12 rfl 0 rfl 13 rfl ?_
    refine wgX11_234_0 C dX11_foresees_13 16 rfl ?_
    obtain ⟨c_3, h⟩ := o_chk h
    refine wlM_8 C c_3 dX11_foresees_16 17 rfl ?_
    refine g_icmp_ge C 50 dX11_foresees_17 (by decide) 20 rfl (fun c_4 => ?_) (fun c_4 => ?_)
    · have h := o_pos h c_4
      exact g_sub C [0] rfl (hk50 σ h)
    · have h := o_neg h c_4
      refine g_aload_n C dX11_foresees_20 rfl 0 rfl 21 rfl ?_
      refine wgX11_152_0 C dX11_foresees_21 24 rfl ?_
      refine g_iload_n C dX11_foresees_24 rfl 1 rfl 25 rfl ?_
      refine g_aload_n C dX11_foresees_25 rfl 0 rfl 26 rfl ?_
      refine wgX11_122_0 C dX11_foresees_26 29 rfl ?_
      refine g_iload_n C dX11_foresees_29 rfl 1 rfl 30 rfl ?_
      obtain ⟨c_5, h⟩ := o_chk h
      refine wlM_35 C c_5 dX11_foresees_30 31 rfl ?_
      obtain ⟨c_6, h⟩ := o_chk h
      obtain ⟨σ_7, eσ_7, h⟩ := o_lt h
      refine wtM_45 C eσ_7 c_6 dX11_foresees_31 32 rfl ?_
      refine g_aload_n C dX11_foresees_32 rfl 0 rfl 33 rfl ?_
      refine wgX11_158_0 C dX11_foresees_33 36 rfl ?_
      refine g_iload_n C dX11_foresees_36 rfl 1 rfl 37 rfl ?_
      refine g_aload_n C dX11_foresees_37 rfl 0 rfl 38 rfl ?_
      refine wgX11_128_0 C dX11_foresees_38 41 rfl ?_
      refine g_iload_n C dX11_foresees_41 rfl 1 rfl 42 rfl ?_
      obtain ⟨c_8, h⟩ := o_chk h
      refine wlM_37 C c_8 dX11_foresees_42 43 rfl ?_
      obtain ⟨c_9, h⟩ := o_chk h
      obtain ⟨σ_10, eσ_10, h⟩ := o_lt h
      refine wtM_47 C eσ_10 c_9 dX11_foresees_43 44 rfl ?_
      obtain ⟨x1_11, ex1_11, h⟩ := o_lt h
      refine g_iinc C (lv' := [(1, .int x1_11), (0, .ref (ad 0))]) ex1_11 dX11_foresees_44 1 rfl (by decide) (by decide) rfl 47 rfl ?_
      refine g_goto C 7 dX11_foresees_47 (by decide) ?_
      exact g_sub C [1, 0] rfl (ih x1_11 σ_10 h)
set_option maxHeartbeats 4000000 in
set_option maxRecDepth 100000 in
theorem kX11_foresees_L52 (C : Ctx p l e (rmL 1) s m args below meth c D (tyz cI cJ cB cZ) (wM ad cI cJ cB cZ) A cX11_foresees 5 1 RX11) (hr : meth.sig.returnType = none) {res : ST} {k75 : ST → Option (ST)} (hk75 : ∀ (σ : ST), k75 σ = some res → G p l e (rmL 1) s m args below meth c (MQ below (Qv D (tyz cI cJ cB cZ) (wM ad cI cJ cB cZ) A res) args s 0 0 A) D (wM ad cI cJ cB cZ) A 5 σ 75 [(0, .ref (ad 0))] []) : ∀ (n : Nat) (x1 : Int32) (σ : ST), fX11_foresees_L52 k75 n x1 σ = some res → G p l e (rmL 1) s m args below meth c (MQ below (Qv D (tyz cI cJ cB cZ) (wM ad cI cJ cB cZ) A res) args s 0 0 A) D (wM ad cI cJ cB cZ) A 5 σ 52 [(0, .ref (ad 0)), (1, .int x1)] [] := by
  intro n
  induction n with
  | zero => intro x1 σ h; have h : none = some res := h; cases h
  | succ n ih =>
    intro x1 σ h
    rw [fX11_foresees_L52] at h
    refine g_iload_n C dX11_foresees_52 rfl 1 rfl 53 rfl ?_
    refine g_iconst C (v := 3) dX11_foresees_53 (by decide) 54 rfl ?_
    refine g_icmp_ge C 75 dX11_foresees_54 (by decide) 57 rfl (fun c_14 => ?_) (fun c_14 => ?_)
    · have h := o_pos h c_14
      exact g_sub C [0] rfl (hk75 σ h)
    · have h := o_neg h c_14
      refine g_aload_n C dX11_foresees_57 rfl 0 rfl 58 rfl ?_
      refine wgX11_155_0 C dX11_foresees_58 61 rfl ?_
      refine g_iload_n C dX11_foresees_61 rfl 1 rfl 62 rfl ?_
      refine g_aload_n C dX11_foresees_62 rfl 0 rfl 63 rfl ?_
      refine wgX11_116_0 C dX11_foresees_63 66 rfl ?_
      refine g_iload_n C dX11_foresees_66 rfl 1 rfl 67 rfl ?_
      obtain ⟨c_15, h⟩ := o_chk h
      refine wlM_33 C c_15 dX11_foresees_67 68 rfl ?_
      obtain ⟨c_16, h⟩ := o_chk h
      obtain ⟨σ_17, eσ_17, h⟩ := o_lt h
      refine wtM_46 C eσ_17 c_16 dX11_foresees_68 69 rfl ?_
      obtain ⟨x1_18, ex1_18, h⟩ := o_lt h
      refine g_iinc C (lv' := [(1, .int x1_18), (0, .ref (ad 0))]) ex1_18 dX11_foresees_69 1 rfl (by decide) (by decide) rfl 72 rfl ?_
      refine g_goto C 52 dX11_foresees_72 (by decide) ?_
      exact g_sub C [1, 0] rfl (ih x1_18 σ_17 h)
set_option maxHeartbeats 4000000 in
set_option maxRecDepth 100000 in
theorem kX11_foresees_L101 (C : Ctx p l e (rmL 1) s m args below meth c D (tyz cI cJ cB cZ) (wM ad cI cJ cB cZ) A cX11_foresees 5 1 RX11) (hr : meth.sig.returnType = none) {res : ST} {k171 : Int32 → Int32 → ST → Option (ST)} (hk171 : ∀ (x1 : Int32) (x2 : Int32) (σ : ST), k171 x1 x2 σ = some res → G p l e (rmL 1) s m args below meth c (MQ below (Qv D (tyz cI cJ cB cZ) (wM ad cI cJ cB cZ) A res) args s 0 0 A) D (wM ad cI cJ cB cZ) A 5 σ 171 [(0, .ref (ad 0)), (1, .int x1), (2, .int x2)] []) : ∀ (n : Nat) (x1 : Int32) (x2 : Int32) (x3 : Int32) (σ : ST), fX11_foresees_L101 k171 n x1 x2 x3 σ = some res → G p l e (rmL 1) s m args below meth c (MQ below (Qv D (tyz cI cJ cB cZ) (wM ad cI cJ cB cZ) A res) args s 0 0 A) D (wM ad cI cJ cB cZ) A 5 σ 101 [(0, .ref (ad 0)), (1, .int x1), (2, .int x2), (3, .int x3)] [] := by
  intro n
  induction n with
  | zero => intro x1 x2 x3 σ h; have h : none = some res := h; cases h
  | succ n ih =>
    intro x1 x2 x3 σ h
    rw [fX11_foresees_L101] at h
    refine g_iload_n C dX11_foresees_101 rfl 3 rfl 102 rfl ?_
    refine g_aload_n C dX11_foresees_102 rfl 0 rfl 103 rfl ?_
    refine wgX11_40_0 C dX11_foresees_103 106 rfl ?_
    refine g_aload_n C dX11_foresees_106 rfl 0 rfl 107 rfl ?_
    refine wgX11_234_0 C dX11_foresees_107 110 rfl ?_
    obtain ⟨c_25, h⟩ := o_chk h
    refine wlM_8 C c_25 dX11_foresees_110 111 rfl ?_
    refine g_icmp_ge C 171 dX11_foresees_111 (by decide) 114 rfl (fun c_26 => ?_) (fun c_26 => ?_)
    · have h := o_pos h c_26
      exact g_sub C [0, 1, 2] rfl (hk171 x1 x2 σ h)
    · have h := o_neg h c_26
      refine g_aload_n C dX11_foresees_114 rfl 0 rfl 115 rfl ?_
      refine wgX11_155_0 C dX11_foresees_115 118 rfl ?_
      refine g_iload_n C dX11_foresees_118 rfl 2 rfl 119 rfl ?_
      obtain ⟨c_27, h⟩ := o_chk h
      refine wlM_46 C c_27 dX11_foresees_119 120 rfl ?_
      refine g_iconst C (v := -1) dX11_foresees_120 (by decide) 121 rfl ?_
      refine g_icmp_ne C 171 dX11_foresees_121 (by decide) 124 rfl (fun c_28 => ?_) (fun c_28 => ?_)
      · have h := o_neg h c_28
        exact g_sub C [0, 1, 2] rfl (hk171 x1 x2 σ h)
      · have h := o_pos h c_28
        refine g_aload_n C dX11_foresees_124 rfl 0 rfl 125 rfl ?_
        refine g_aload_n C dX11_foresees_125 rfl 0 rfl 126 rfl ?_
        refine wgX11_149_0 C dX11_foresees_126 129 rfl ?_
        refine g_iload_n C dX11_foresees_129 rfl 3 rfl 130 rfl ?_
        obtain ⟨c_29, h⟩ := o_chk h
        refine wlM_44 C c_29 dX11_foresees_130 131 rfl ?_
        refine g_iload_n C dX11_foresees_131 rfl 1 rfl 132 rfl ?_
        obtain ⟨q_30, hq_30, h⟩ := o_bind h
        refine wcX11_325_M_0 C (kX11_mayBegin hq_30) (by decide) (Nat.le_of_ble_eq_true rfl) dX11_foresees_132 135 rfl ?_
        refine g_if_ne C 141 dX11_foresees_135 (by decide) 138 rfl (fun c_31 => ?_) (fun c_31 => ?_)
        · have h := o_neg h c_31
          refine g_aload_n C dX11_foresees_141 rfl 0 rfl 142 rfl ?_
          refine wgX11_155_0 C dX11_foresees_142 145 rfl ?_
          refine g_iload_n C dX11_foresees_145 rfl 2 rfl 146 rfl ?_
          refine g_aload_n C dX11_foresees_146 rfl 0 rfl 147 rfl ?_
          refine wgX11_149_0 C dX11_foresees_147 150 rfl ?_
          refine g_iload_n C dX11_foresees_150 rfl 3 rfl 151 rfl ?_
          obtain ⟨c_32, h⟩ := o_chk h
          refine wlM_44 C c_32 dX11_foresees_151 152 rfl ?_
          obtain ⟨c_33, h⟩ := o_chk h
          obtain ⟨σ_34, eσ_34, h⟩ := o_lt h
          refine wtM_46 C eσ_34 c_33 dX11_foresees_152 153 rfl ?_
          refine g_aload_n C dX11_foresees_153 rfl 0 rfl 154 rfl ?_
          refine wgX11_158_0 C dX11_foresees_154 157 rfl ?_
          refine g_aload_n C dX11_foresees_157 rfl 0 rfl 158 rfl ?_
          refine wgX11_149_0 C dX11_foresees_158 161 rfl ?_
          refine g_iload_n C dX11_foresees_161 rfl 3 rfl 162 rfl ?_
          obtain ⟨c_35, h⟩ := o_chk h
          refine wlM_44 C c_35 dX11_foresees_162 163 rfl ?_
          refine g_iconst C (v := 0) dX11_foresees_163 (by decide) 164 rfl ?_
          obtain ⟨c_36, h⟩ := o_chk h
          obtain ⟨σ_37, eσ_37, h⟩ := o_lt h
          refine wtM_47 C eσ_37 c_36 dX11_foresees_164 165 rfl ?_
          obtain ⟨x3_38, ex3_38, h⟩ := o_lt h
          refine g_iinc C (lv' := [(3, .int x3_38), (0, .ref (ad 0)), (1, .int x1), (2, .int x2)]) ex3_38 dX11_foresees_165 3 rfl (by decide) (by decide) rfl 168 rfl ?_
          refine g_goto C 101 dX11_foresees_168 (by decide) ?_
          exact g_sub C [1, 2, 3, 0] rfl (ih x1 x2 x3_38 σ_37 h)
        · have h := o_pos h c_31
          refine g_goto C 165 dX11_foresees_138 (by decide) ?_
          obtain ⟨x3_39, ex3_39, h⟩ := o_lt h
          refine g_iinc C (lv' := [(3, .int x3_39), (0, .ref (ad 0)), (1, .int x1), (2, .int x2)]) ex3_39 dX11_foresees_165 3 rfl (by decide) (by decide) rfl 168 rfl ?_
          refine g_goto C 101 dX11_foresees_168 (by decide) ?_
          exact g_sub C [1, 2, 3, 0] rfl (ih x1 x2 x3_39 q_30.2 h)
set_option maxHeartbeats 4000000 in
set_option maxRecDepth 100000 in
theorem kX11_foresees_L91 (C : Ctx p l e (rmL 1) s m args below meth c D (tyz cI cJ cB cZ) (wM ad cI cJ cB cZ) A cX11_foresees 5 1 RX11) (hr : meth.sig.returnType = none) {res : ST} {k177 : Int32 → ST → Option (ST)} (hk177 : ∀ (x1 : Int32) (σ : ST), k177 x1 σ = some res → G p l e (rmL 1) s m args below meth c (MQ below (Qv D (tyz cI cJ cB cZ) (wM ad cI cJ cB cZ) A res) args s 0 0 A) D (wM ad cI cJ cB cZ) A 5 σ 177 [(0, .ref (ad 0)), (1, .int x1)] []) : ∀ (n : Nat) (x1 : Int32) (x2 : Int32) (σ : ST), fX11_foresees_L91 k177 n x1 x2 σ = some res → G p l e (rmL 1) s m args below meth c (MQ below (Qv D (tyz cI cJ cB cZ) (wM ad cI cJ cB cZ) A res) args s 0 0 A) D (wM ad cI cJ cB cZ) A 5 σ 91 [(0, .ref (ad 0)), (1, .int x1), (2, .int x2)] [] := by
  intro n
  induction n with
  | zero => intro x1 x2 σ h; have h : none = some res := h; cases h
  | succ n ih =>
    intro x1 x2 σ h
    rw [fX11_foresees_L91] at h
    refine g_iload_n C dX11_foresees_91 rfl 2 rfl 92 rfl ?_
    refine g_aload_n C dX11_foresees_92 rfl 0 rfl 93 rfl ?_
    refine wgX11_168_0 C dX11_foresees_93 96 rfl ?_
    refine g_icmp_ge C 177 dX11_foresees_96 (by decide) 99 rfl (fun c_23 => ?_) (fun c_23 => ?_)
    · have h := o_pos h c_23
      exact g_sub C [0, 1] rfl (hk177 x1 σ h)
    · have h := o_neg h c_23
      refine g_iconst C (v := 0) dX11_foresees_99 (by decide) 100 rfl ?_
      obtain ⟨x3_24, ex3_24, h⟩ := o_lt h
      refine g_istore_n C (lv' := [(3, .int x3_24), (0, .ref (ad 0)), (1, .int x1), (2, .int x2)]) ex3_24 dX11_foresees_100 rfl (by decide) rfl 101 rfl ?_
      exact g_sub C [1, 2, 3, 0] rfl (kX11_foresees_L101 C hr (fun x1_40 x2_41 σ_42 h => by
          obtain ⟨x2_43, ex2_43, h⟩ := o_lt h
          refine g_iinc C (lv' := [(2, .int x2_43), (0, .ref (ad 0)), (1, .int x1_40)]) ex2_43 dX11_foresees_171 2 rfl (by decide) (by decide) rfl 174 rfl ?_
          refine g_goto C 91 dX11_foresees_174 (by decide) ?_
          exact g_sub C [1, 2, 0] rfl (ih x1_40 x2_43 σ_42 h)) n x1 x2 x3_24 σ h)
set_option maxHeartbeats 4000000 in
set_option maxRecDepth 100000 in
theorem kX11_foresees_L181 (C : Ctx p l e (rmL 1) s m args below meth c D (tyz cI cJ cB cZ) (wM ad cI cJ cB cZ) A cX11_foresees 5 1 RX11) (hr : meth.sig.returnType = none) {res : ST} {k215 : Int32 → Int32 → ST → Option (ST)} (hk215 : ∀ (x1 : Int32) (x2 : Int32) (σ : ST), k215 x1 x2 σ = some res → G p l e (rmL 1) s m args below meth c (MQ below (Qv D (tyz cI cJ cB cZ) (wM ad cI cJ cB cZ) A res) args s 0 0 A) D (wM ad cI cJ cB cZ) A 5 σ 215 [(0, .ref (ad 0)), (1, .int x1), (2, .int x2)] []) : ∀ (n : Nat) (x1 : Int32) (x2 : Int32) (x3 : Int32) (σ : ST), fX11_foresees_L181 k215 n x1 x2 x3 σ = some res → G p l e (rmL 1) s m args below meth c (MQ below (Qv D (tyz cI cJ cB cZ) (wM ad cI cJ cB cZ) A res) args s 0 0 A) D (wM ad cI cJ cB cZ) A 5 σ 181 [(0, .ref (ad 0)), (1, .int x1), (2, .int x2), (3, .int x3)] [] := by
  intro n
  induction n with
  | zero => intro x1 x2 x3 σ h; have h : none = some res := h; cases h
  | succ n ih =>
    intro x1 x2 x3 σ h
    rw [fX11_foresees_L181] at h
    refine g_iload_n C dX11_foresees_181 rfl 3 rfl 182 rfl ?_
    refine g_aload_n C dX11_foresees_182 rfl 0 rfl 183 rfl ?_
    refine wgX11_168_0 C dX11_foresees_183 186 rfl ?_
    refine g_icmp_ge C 215 dX11_foresees_186 (by decide) 189 rfl (fun c_48 => ?_) (fun c_48 => ?_)
    · have h := o_pos h c_48
      exact g_sub C [0, 1, 2] rfl (hk215 x1 x2 σ h)
    · have h := o_neg h c_48
      refine g_iload_n C dX11_foresees_189 rfl 2 rfl 190 rfl ?_
      refine g_if_ne C 203 dX11_foresees_190 (by decide) 193 rfl (fun c_49 => ?_) (fun c_49 => ?_)
      · have h := o_neg h c_49
        refine g_iconst C (v := 1) dX11_foresees_203 (by decide) 204 rfl ?_
        refine g_goto C 208 dX11_foresees_204 (by decide) ?_
        obtain ⟨x2_50, ex2_50, h⟩ := o_lt h
        refine g_istore_n C (lv' := [(2, .int x2_50), (0, .ref (ad 0)), (1, .int x1), (3, .int x3)]) ex2_50 dX11_foresees_208 rfl (by decide) rfl 209 rfl ?_
        obtain ⟨x3_51, ex3_51, h⟩ := o_lt h
        refine g_iinc C (lv' := [(3, .int x3_51), (2, .int x2_50), (0, .ref (ad 0)), (1, .int x1)]) ex3_51 dX11_foresees_209 3 rfl (by decide) (by decide) rfl 212 rfl ?_
        refine g_goto C 181 dX11_foresees_212 (by decide) ?_
        exact g_sub C [2, 3, 1, 0] rfl (ih x1 x2_50 x3_51 σ h)
      · have h := o_pos h c_49
        refine g_aload_n C dX11_foresees_193 rfl 0 rfl 194 rfl ?_
        refine wgX11_155_0 C dX11_foresees_194 197 rfl ?_
        refine g_iload_n C dX11_foresees_197 rfl 3 rfl 198 rfl ?_
        obtain ⟨c_52, h⟩ := o_chk h
        refine wlM_46 C c_52 dX11_foresees_198 199 rfl ?_
        refine g_iconst C (v := -1) dX11_foresees_199 (by decide) 200 rfl ?_
        refine g_icmp_eq C 207 dX11_foresees_200 (by decide) 203 rfl (fun c_53 => ?_) (fun c_53 => ?_)
        · have h := o_pos h c_53
          refine g_iconst C (v := 0) dX11_foresees_207 (by decide) 208 rfl ?_
          obtain ⟨x2_54, ex2_54, h⟩ := o_lt h
          refine g_istore_n C (lv' := [(2, .int x2_54), (0, .ref (ad 0)), (1, .int x1), (3, .int x3)]) ex2_54 dX11_foresees_208 rfl (by decide) rfl 209 rfl ?_
          obtain ⟨x3_55, ex3_55, h⟩ := o_lt h
          refine g_iinc C (lv' := [(3, .int x3_55), (2, .int x2_54), (0, .ref (ad 0)), (1, .int x1)]) ex3_55 dX11_foresees_209 3 rfl (by decide) (by decide) rfl 212 rfl ?_
          refine g_goto C 181 dX11_foresees_212 (by decide) ?_
          exact g_sub C [2, 3, 1, 0] rfl (ih x1 x2_54 x3_55 σ h)
        · have h := o_neg h c_53
          refine g_iconst C (v := 1) dX11_foresees_203 (by decide) 204 rfl ?_
          refine g_goto C 208 dX11_foresees_204 (by decide) ?_
          obtain ⟨x2_56, ex2_56, h⟩ := o_lt h
          refine g_istore_n C (lv' := [(2, .int x2_56), (0, .ref (ad 0)), (1, .int x1), (3, .int x3)]) ex2_56 dX11_foresees_208 rfl (by decide) rfl 209 rfl ?_
          obtain ⟨x3_57, ex3_57, h⟩ := o_lt h
          refine g_iinc C (lv' := [(3, .int x3_57), (2, .int x2_56), (0, .ref (ad 0)), (1, .int x1)]) ex3_57 dX11_foresees_209 3 rfl (by decide) (by decide) rfl 212 rfl ?_
          refine g_goto C 181 dX11_foresees_212 (by decide) ?_
          exact g_sub C [2, 3, 1, 0] rfl (ih x1 x2_56 x3_57 σ h)
set_option maxHeartbeats 4000000 in
set_option maxRecDepth 100000 in
theorem kX11_foresees_L232 (C : Ctx p l e (rmL 1) s m args below meth c D (tyz cI cJ cB cZ) (wM ad cI cJ cB cZ) A cX11_foresees 5 1 RX11) (hr : meth.sig.returnType = none) {res : ST} {k317 : Int32 → ST → Option (ST)} (hk317 : ∀ (x1 : Int32) (σ : ST), k317 x1 σ = some res → G p l e (rmL 1) s m args below meth c (MQ below (Qv D (tyz cI cJ cB cZ) (wM ad cI cJ cB cZ) A res) args s 0 0 A) D (wM ad cI cJ cB cZ) A 5 σ 317 [(0, .ref (ad 0)), (1, .int x1)] []) : ∀ (n : Nat) (x1 : Int32) (x3 : Int32) (σ : ST), fX11_foresees_L232 k317 n x1 x3 σ = some res → G p l e (rmL 1) s m args below meth c (MQ below (Qv D (tyz cI cJ cB cZ) (wM ad cI cJ cB cZ) A res) args s 0 0 A) D (wM ad cI cJ cB cZ) A 5 σ 232 [(0, .ref (ad 0)), (1, .int x1), (3, .int x3)] [] := by
  intro n
  induction n with
  | zero => intro x1 x3 σ h; have h : none = some res := h; cases h
  | succ n ih =>
    intro x1 x3 σ h
    rw [fX11_foresees_L232] at h
    refine g_iload_n C dX11_foresees_232 rfl 2 rfl 233 rfl ?_
    refine g_aload_n C dX11_foresees_233 rfl 0 rfl 234 rfl ?_
    refine wgX11_168_0 C dX11_foresees_234 237 rfl ?_
    refine g_icmp_ge C 317 dX11_foresees_237 (by decide) 240 rfl (fun c_63 => ?_) (fun c_63 => ?_)
    · have h := o_pos h c_63
      exact g_sub C [0, 1] rfl (hk317 x1 σ h)
    · have h := o_neg h c_63
      refine g_aload_n C dX11_foresees_240 rfl 0 rfl 241 rfl ?_
      refine wgX11_155_0 C dX11_foresees_241 244 rfl ?_
      refine g_iload_n C dX11_foresees_244 rfl 2 rfl 245 rfl ?_
      obtain ⟨c_64, h⟩ := o_chk h
      refine wlM_46 C c_64 dX11_foresees_245 246 rfl ?_
      obtain ⟨x4_65, ex4_65, h⟩ := o_lt h
      refine g_istore C (lv' := [(4, .int x4_65), (0, .ref (ad 0)), (1, .int x1), (3, .int x3)]) ex4_65 dX11_foresees_246 (by decide) rfl 248 rfl ?_
      refine g_iload C dX11_foresees_248 0 rfl 250 rfl ?_
      refine g_iconst C (v := -1) dX11_foresees_250 (by decide) 251 rfl ?_
      refine g_icmp_ne C 257 dX11_foresees_251 (by decide) 254 rfl (fun c_66 => ?_) (fun c_66 => ?_)
      · have h := o_neg h c_66
        refine g_aload_n C dX11_foresees_257 rfl 1 rfl 258 rfl ?_
        refine wgX11_158_0 C dX11_foresees_258 261 rfl ?_
        refine g_iload C dX11_foresees_261 0 rfl 263 rfl ?_
        refine g_dup2 C dX11_foresees_263 rfl rfl 264 rfl ?_
        obtain ⟨c_67, h⟩ := o_chk h
        refine wlM_47 C c_67 dX11_foresees_264 265 rfl ?_
        refine g_iconst C (v := 1) dX11_foresees_265 (by decide) 266 rfl ?_
        refine g_iadd C dX11_foresees_266 267 rfl ?_
        obtain ⟨c_68, h⟩ := o_chk h
        obtain ⟨σ_69, eσ_69, h⟩ := o_lt h
        refine wtM_47 C eσ_69 c_68 dX11_foresees_267 268 rfl ?_
        refine g_aload_n C dX11_foresees_268 rfl 1 rfl 269 rfl ?_
        refine wgX11_158_0 C dX11_foresees_269 272 rfl ?_
        refine g_iload C dX11_foresees_272 0 rfl 274 rfl ?_
        obtain ⟨c_70, h⟩ := o_chk h
        refine wlM_47 C c_70 dX11_foresees_274 275 rfl ?_
        refine g_aload_n C dX11_foresees_275 rfl 1 rfl 276 rfl ?_
        refine wgX11_50_0 C dX11_foresees_276 279 rfl ?_
        refine g_bipush C (v := 7) dX11_foresees_279 (by decide) 281 rfl ?_
        refine g_aload_n C dX11_foresees_281 rfl 1 rfl 282 rfl ?_
        refine wgX11_234_0 C dX11_foresees_282 285 rfl ?_
        refine g_imul C dX11_foresees_285 286 rfl ?_
        refine g_iload C dX11_foresees_286 0 rfl 288 rfl ?_
        refine g_iadd C dX11_foresees_288 289 rfl ?_
        obtain ⟨c_71, h⟩ := o_chk h
        refine wlM_11 C c_71 dX11_foresees_289 290 rfl ?_
        refine g_icmp_ge C 296 dX11_foresees_290 (by decide) 293 rfl (fun c_72 => ?_) (fun c_72 => ?_)
        · have h := o_pos h c_72
          refine g_aload_n C dX11_foresees_296 rfl 1 rfl 297 rfl ?_
          refine wgX11_155_0 C dX11_foresees_297 300 rfl ?_
          refine g_iload_n C dX11_foresees_300 rfl 3 rfl 301 rfl ?_
          refine g_iconst C (v := -1) dX11_foresees_301 (by decide) 302 rfl ?_
          obtain ⟨c_73, h⟩ := o_chk h
          obtain ⟨σ_74, eσ_74, h⟩ := o_lt h
          refine wtM_46 C eσ_74 c_73 dX11_foresees_302 303 rfl ?_
          refine g_aload_n C dX11_foresees_303 rfl 1 rfl 304 rfl ?_
          refine wgX11_152_0 C dX11_foresees_304 307 rfl ?_
          refine g_iload C dX11_foresees_307 0 rfl 309 rfl ?_
          refine g_iload_n C dX11_foresees_309 rfl 2 rfl 310 rfl ?_
          obtain ⟨c_75, h⟩ := o_chk h
          obtain ⟨σ_76, eσ_76, h⟩ := o_lt h
          refine wtM_45 C eσ_76 c_75 dX11_foresees_310 311 rfl ?_
          obtain ⟨x3_77, ex3_77, h⟩ := o_lt h
          refine g_iinc C (lv' := [(3, .int x3_77), (4, .int x4_65), (0, .ref (ad 0)), (1, .int x1)]) ex3_77 dX11_foresees_311 3 rfl (by decide) (by decide) rfl 314 rfl ?_
          refine g_goto C 232 dX11_foresees_314 (by decide) ?_
          exact g_sub C [2, 3, 0] rfl (ih x1 x3_77 σ_76 h)
        · have h := o_neg h c_72
          refine g_goto C 311 dX11_foresees_293 (by decide) ?_
          obtain ⟨x3_78, ex3_78, h⟩ := o_lt h
          refine g_iinc C (lv' := [(3, .int x3_78), (4, .int x4_65), (0, .ref (ad 0)), (1, .int x1)]) ex3_78 dX11_foresees_311 3 rfl (by decide) (by decide) rfl 314 rfl ?_
          refine g_goto C 232 dX11_foresees_314 (by decide) ?_
          exact g_sub C [2, 3, 0] rfl (ih x1 x3_78 σ_69 h)
      · have h := o_pos h c_66
        refine g_goto C 311 dX11_foresees_254 (by decide) ?_
        obtain ⟨x3_79, ex3_79, h⟩ := o_lt h
        refine g_iinc C (lv' := [(3, .int x3_79), (4, .int x4_65), (0, .ref (ad 0)), (1, .int x1)]) ex3_79 dX11_foresees_311 3 rfl (by decide) (by decide) rfl 314 rfl ?_
        refine g_goto C 232 dX11_foresees_314 (by decide) ?_
        exact g_sub C [2, 3, 0] rfl (ih x1 x3_79 σ h)
set_option maxHeartbeats 4000000 in
set_option maxRecDepth 100000 in
theorem kX11_foresees_L82 (C : Ctx p l e (rmL 1) s m args below meth c D (tyz cI cJ cB cZ) (wM ad cI cJ cB cZ) A cX11_foresees 5 1 RX11) (hr : meth.sig.returnType = none) {res : ST} {k323 : ST → Option (ST)} (hk323 : ∀ (σ : ST), k323 σ = some res → G p l e (rmL 1) s m args below meth c (MQ below (Qv D (tyz cI cJ cB cZ) (wM ad cI cJ cB cZ) A res) args s 0 0 A) D (wM ad cI cJ cB cZ) A 5 σ 323 [(0, .ref (ad 0))] []) : ∀ (n : Nat) (x1 : Int32) (σ : ST), fX11_foresees_L82 k323 n x1 σ = some res → G p l e (rmL 1) s m args below meth c (MQ below (Qv D (tyz cI cJ cB cZ) (wM ad cI cJ cB cZ) A res) args s 0 0 A) D (wM ad cI cJ cB cZ) A 5 σ 82 [(0, .ref (ad 0)), (1, .int x1)] [] := by
  intro n
  induction n with
  | zero => intro x1 σ h; have h : none = some res := h; cases h
  | succ n ih =>
    intro x1 σ h
    rw [fX11_foresees_L82] at h
    refine g_iload_n C dX11_foresees_82 rfl 1 rfl 83 rfl ?_
    refine g_sipush C (v := 399) dX11_foresees_83 (by decide) 86 rfl ?_
    refine g_icmp_gt C 323 dX11_foresees_86 (by decide) 89 rfl (fun c_21 => ?_) (fun c_21 => ?_)
    · have h := o_pos h c_21
      exact g_sub C [0] rfl (hk323 σ h)
    · have h := o_neg h c_21
      refine g_iconst C (v := 0) dX11_foresees_89 (by decide) 90 rfl ?_
      obtain ⟨x2_22, ex2_22, h⟩ := o_lt h
      refine g_istore_n C (lv' := [(2, .int x2_22), (0, .ref (ad 0)), (1, .int x1)]) ex2_22 dX11_foresees_90 rfl (by decide) rfl 91 rfl ?_
      exact g_sub C [1, 2, 0] rfl (kX11_foresees_L91 C hr (fun x1_44 σ_45 h => by
          refine g_iconst C (v := 0) dX11_foresees_177 (by decide) 178 rfl ?_
          obtain ⟨x2_46, ex2_46, h⟩ := o_lt h
          refine g_istore_n C (lv' := [(2, .int x2_46), (0, .ref (ad 0)), (1, .int x1_44)]) ex2_46 dX11_foresees_178 rfl (by decide) rfl 179 rfl ?_
          refine g_iconst C (v := 0) dX11_foresees_179 (by decide) 180 rfl ?_
          obtain ⟨x3_47, ex3_47, h⟩ := o_lt h
          refine g_istore_n C (lv' := [(3, .int x3_47), (2, .int x2_46), (0, .ref (ad 0)), (1, .int x1_44)]) ex3_47 dX11_foresees_180 rfl (by decide) rfl 181 rfl ?_
          exact g_sub C [2, 3, 1, 0] rfl (kX11_foresees_L181 C hr (fun x1_58 x2_59 σ_60 h => by
              refine g_iload_n C dX11_foresees_215 rfl 2 rfl 216 rfl ?_
              refine g_if_ne C 230 dX11_foresees_216 (by decide) 219 rfl (fun c_61 => ?_) (fun c_61 => ?_)
              · have h := o_neg h c_61
                refine g_iconst C (v := 0) dX11_foresees_230 (by decide) 231 rfl ?_
                obtain ⟨x3_62, ex3_62, h⟩ := o_lt h
                refine g_istore_n C (lv' := [(3, .int x3_62), (0, .ref (ad 0)), (1, .int x1_58), (2, .int x2_59)]) ex3_62 dX11_foresees_231 rfl (by decide) rfl 232 rfl ?_
                exact g_sub C [1, 2, 0] rfl (kX11_foresees_L232 C hr (fun x1_80 σ_81 h => by
                    obtain ⟨x1_82, ex1_82, h⟩ := o_lt h
                    refine g_iinc C (lv' := [(1, .int x1_82), (0, .ref (ad 0))]) ex1_82 dX11_foresees_317 1 rfl (by decide) (by decide) rfl 320 rfl ?_
                    refine g_goto C 82 dX11_foresees_320 (by decide) ?_
                    exact g_sub C [1, 0] rfl (ih x1_82 σ_81 h)) n x1_58 x3_62 σ_60 h)
              · have h := o_pos h c_61
                refine g_aload_n C dX11_foresees_219 rfl 0 rfl 220 rfl ?_
                refine g_iload_n C dX11_foresees_220 rfl 1 rfl 221 rfl ?_
                obtain ⟨q_83, hq_83, h⟩ := o_bind h
                refine wcX11_329_M_0 C (kX11_landsBehind hq_83) (by decide) (Nat.le_of_ble_eq_true rfl) dX11_foresees_221 224 rfl ?_
                refine g_iconst C (v := 1) dX11_foresees_224 (by decide) 225 rfl ?_
                refine g_isub C dX11_foresees_225 226 rfl ?_
                obtain ⟨x1_84, ex1_84, h⟩ := o_lt h
                refine g_istore_n C (lv' := [(1, .int x1_84), (0, .ref (ad 0)), (2, .int x2_59)]) ex1_84 dX11_foresees_226 rfl (by decide) rfl 227 rfl ?_
                refine g_goto C 317 dX11_foresees_227 (by decide) ?_
                obtain ⟨x1_85, ex1_85, h⟩ := o_lt h
                refine g_iinc C (lv' := [(1, .int x1_85), (0, .ref (ad 0)), (2, .int x2_59)]) ex1_85 dX11_foresees_317 0 rfl (by decide) (by decide) rfl 320 rfl ?_
                refine g_goto C 82 dX11_foresees_320 (by decide) ?_
                exact g_sub C [1, 0] rfl (ih x1_85 q_83.2 h)) n x1_44 x2_46 x3_47 σ_45 h)) n x1 x2_22 σ h)
set_option maxHeartbeats 4000000 in
set_option maxRecDepth 100000 in
theorem kX11_foresees_L325 (C : Ctx p l e (rmL 1) s m args below meth c D (tyz cI cJ cB cZ) (wM ad cI cJ cB cZ) A cX11_foresees 5 1 RX11) (hr : meth.sig.returnType = none) {res : ST}   : ∀ (n : Nat) (x1 : Int32) (σ : ST), fX11_foresees_L325 n x1 σ = some res → G p l e (rmL 1) s m args below meth c (MQ below (Qv D (tyz cI cJ cB cZ) (wM ad cI cJ cB cZ) A res) args s 0 0 A) D (wM ad cI cJ cB cZ) A 5 σ 325 [(0, .ref (ad 0)), (1, .int x1)] [] := by
  intro n
  induction n with
  | zero => intro x1 σ h; have h : none = some res := h; cases h
  | succ n ih =>
    intro x1 σ h
    rw [fX11_foresees_L325] at h
    refine g_iload_n C dX11_foresees_325 rfl 1 rfl 326 rfl ?_
    refine g_aload_n C dX11_foresees_326 rfl 0 rfl 327 rfl ?_
    refine wgX11_40_0 C dX11_foresees_327 330 rfl ?_
    refine g_aload_n C dX11_foresees_330 rfl 0 rfl 331 rfl ?_
    refine wgX11_234_0 C dX11_foresees_331 334 rfl ?_
    obtain ⟨c_88, h⟩ := o_chk h
    refine wlM_8 C c_88 dX11_foresees_334 335 rfl ?_
    refine g_icmp_ge C 363 dX11_foresees_335 (by decide) 338 rfl (fun c_89 => ?_) (fun c_89 => ?_)
    · have h := o_pos h c_89
      exact g_vret C hr dX11_foresees_363 h
    · have h := o_neg h c_89
      refine g_aload_n C dX11_foresees_338 rfl 0 rfl 339 rfl ?_
      refine wgX11_152_0 C dX11_foresees_339 342 rfl ?_
      refine g_iload_n C dX11_foresees_342 rfl 1 rfl 343 rfl ?_
      obtain ⟨c_90, h⟩ := o_chk h
      refine wlM_45 C c_90 dX11_foresees_343 344 rfl ?_
      refine g_iconst C (v := -1) dX11_foresees_344 (by decide) 345 rfl ?_
      refine g_icmp_ne C 357 dX11_foresees_345 (by decide) 348 rfl (fun c_91 => ?_) (fun c_91 => ?_)
      · have h := o_neg h c_91
        obtain ⟨x1_92, ex1_92, h⟩ := o_lt h
        refine g_iinc C (lv' := [(1, .int x1_92), (0, .ref (ad 0))]) ex1_92 dX11_foresees_357 1 rfl (by decide) (by decide) rfl 360 rfl ?_
        refine g_goto C 325 dX11_foresees_360 (by decide) ?_
        exact g_sub C [1, 0] rfl (ih x1_92 σ h)
      · have h := o_pos h c_91
        refine g_aload_n C dX11_foresees_348 rfl 0 rfl 349 rfl ?_
        refine wgX11_152_0 C dX11_foresees_349 352 rfl ?_
        refine g_iload_n C dX11_foresees_352 rfl 1 rfl 353 rfl ?_
        refine g_sipush C (v := 400) dX11_foresees_353 (by decide) 356 rfl ?_
        obtain ⟨c_93, h⟩ := o_chk h
        obtain ⟨σ_94, eσ_94, h⟩ := o_lt h
        refine wtM_45 C eσ_94 c_93 dX11_foresees_356 357 rfl ?_
        obtain ⟨x1_95, ex1_95, h⟩ := o_lt h
        refine g_iinc C (lv' := [(1, .int x1_95), (0, .ref (ad 0))]) ex1_95 dX11_foresees_357 1 rfl (by decide) (by decide) rfl 360 rfl ?_
        refine g_goto C 325 dX11_foresees_360 (by decide) ?_
        exact g_sub C [1, 0] rfl (ih x1_95 σ_94 h)
set_option maxHeartbeats 4000000 in
set_option maxRecDepth 100000 in
theorem kX11_foresees {l : Launch} {D : va_G} {ad : Nat → Nat} {cI cJ cB cZ : ClassId}  {n : Nat}  {σ : ST} {res : ST} (h : fX11_foresees n σ = some res) : CMv l D (tyz cI cJ cB cZ) (wM ad cI cJ cB cZ) 1 yX11_foresees cX11_foresees 5 none [.ref (ad 0)] σ res := by
  refine cmv_body (own := RX11) (lv := [(0, .ref (ad 0))]) (by decide) rfl (wM_addr _ _ _ _ _) (Nat.le_of_ble_eq_true rfl) rfl (fun p e s m args below meth c A C hr => ?_)
  unfold fX11_foresees at h
  refine g_aload_n C dX11_foresees_0 rfl 0 rfl 1 rfl ?_
  refine g_iconst C (v := 1) dX11_foresees_1 (by decide) 2 rfl ?_
  obtain ⟨q_1, hq_1, h⟩ := o_bind h
  refine wcX11_323_M_0 C (kX11_lands hq_1) (by decide) (Nat.le_of_ble_eq_true rfl) dX11_foresees_2 5 rfl ?_
  refine g_iconst C (v := 0) dX11_foresees_5 (by decide) 6 rfl ?_
  obtain ⟨x1_2, ex1_2, h⟩ := o_lt h
  refine g_istore_n C (lv' := [(1, .int x1_2), (0, .ref (ad 0))]) ex1_2 dX11_foresees_6 rfl (by decide) rfl 7 rfl ?_
  exact g_sub C [1, 0] rfl (kX11_foresees_L7 C hr (fun σ_12 h => by
      refine g_iconst C (v := 0) dX11_foresees_50 (by decide) 51 rfl ?_
      obtain ⟨x1_13, ex1_13, h⟩ := o_lt h
      refine g_istore_n C (lv' := [(1, .int x1_13), (0, .ref (ad 0))]) ex1_13 dX11_foresees_51 rfl (by decide) rfl 52 rfl ?_
      exact g_sub C [1, 0] rfl (kX11_foresees_L52 C hr (fun σ_19 h => by
          refine g_aload_n C dX11_foresees_75 rfl 0 rfl 76 rfl ?_
          refine wgX11_314_0 C dX11_foresees_76 79 rfl ?_
          refine g_iconst C (v := 1) dX11_foresees_79 (by decide) 80 rfl ?_
          refine g_iadd C dX11_foresees_80 81 rfl ?_
          obtain ⟨x1_20, ex1_20, h⟩ := o_lt h
          refine g_istore_n C (lv' := [(1, .int x1_20), (0, .ref (ad 0))]) ex1_20 dX11_foresees_81 rfl (by decide) rfl 82 rfl ?_
          exact g_sub C [1, 0] rfl (kX11_foresees_L82 C hr (fun σ_86 h => by
              refine g_iconst C (v := 0) dX11_foresees_323 (by decide) 324 rfl ?_
              obtain ⟨x1_87, ex1_87, h⟩ := o_lt h
              refine g_istore_n C (lv' := [(1, .int x1_87), (0, .ref (ad 0))]) ex1_87 dX11_foresees_324 rfl (by decide) rfl 325 rfl ?_
              exact g_sub C [1, 0] rfl (kX11_foresees_L325 C hr  n x1_87 σ_86 h)) n x1_20 σ_19 h)) n x1_13 σ_12 h)) n x1_2 q_1 h)
end WK
/-! X11_lates private int lates(); -/
def fX11_lates_L4  : Nat → Int32 → Int32 → ST → Option (Int32 × ST)
  | 0, _, _, _ => none
  | n + 1, x1, x2, σ => (if ix (gI σ 11) 2 then (if (ldA σ 8 (gI σ 11)) ≤ x2 then (some (x1, σ)) else (if ix x2 7 then (if ix ((((7 : Int32)) * (gI σ 11)) + x2) 14 then (lt ((ldA σ 45 x2) - (ldA σ 12 ((((7 : Int32)) * (gI σ 11)) + x2))) (fun x3_7 => (if ix ((((7 : Int32)) * (gI σ 11)) + x2) 14 then (if (ldA σ 10 ((((7 : Int32)) * (gI σ 11)) + x2)) = 0 then (lt (x2 + 1) (fun x2_10 => (fX11_lates_L4 n x1 x2_10 σ))) else (if x3_7 ≤ 0 then (lt (x2 + 1) (fun x2_12 => (fX11_lates_L4 n x1 x2_12 σ))) else (if ix ((((7 : Int32)) * (gI σ 11)) + x2) 14 then (lt (x1 + (x3_7 * (ldA σ 13 ((((7 : Int32)) * (gI σ 11)) + x2)))) (fun x1_14 => (lt (x2 + 1) (fun x2_15 => (fX11_lates_L4 n x1_14 x2_15 σ))))) else none))) else none))) else none) else none)) else none)
def fX11_lates (n : Nat)  (σ : ST) : Option (Int32 × ST) :=
  (lt ((0 : Int32)) (fun x1_1 => (lt ((0 : Int32)) (fun x2_2 => (fX11_lates_L4 n x1_1 x2_2 σ)))))
section WK
variable {p : Program} {l : Launch} {e : Env} {R : Room} {s : State} {m : MethodId} {args : Array Value} {below : List Frame} {meth : Method} {c : Code} {Q : State → Prop}
variable {D : va_G} {ad : Nat → Nat} {cI cJ cB cZ : ClassId} {A : Nat → Prop} {cc : ByteArray} {nL lev : Nat}
variable {σ : ST} {pc : Nat} {lv : List (Nat × Value)} {st : List Value}
set_option maxHeartbeats 4000000 in
set_option maxRecDepth 100000 in
theorem kX11_lates_L4 (C : Ctx p l e (rmL 0) s m args below meth c D (tyz cI cJ cB cZ) (wM ad cI cJ cB cZ) A cX11_lates 4 0 RX11) (hr : meth.sig.returnType = some .int) {res : Int32 × ST}   : ∀ (n : Nat) (x1 : Int32) (x2 : Int32) (σ : ST), fX11_lates_L4 n x1 x2 σ = some res → G p l e (rmL 0) s m args below meth c (MQ below (Qi D (tyz cI cJ cB cZ) (wM ad cI cJ cB cZ) A res) args s 0 0 A) D (wM ad cI cJ cB cZ) A 4 σ 4 [(0, .ref (ad 0)), (1, .int x1), (2, .int x2)] [] := by
  intro n
  induction n with
  | zero => intro x1 x2 σ h; have h : none = some res := h; cases h
  | succ n ih =>
    intro x1 x2 σ h
    rw [fX11_lates_L4] at h
    refine g_iload_n C dX11_lates_4 rfl 2 rfl 5 rfl ?_
    refine g_aload_n C dX11_lates_5 rfl 0 rfl 6 rfl ?_
    refine wgX11_40_0 C dX11_lates_6 9 rfl ?_
    refine g_aload_n C dX11_lates_9 rfl 0 rfl 10 rfl ?_
    refine wgX11_234_0 C dX11_lates_10 13 rfl ?_
    obtain ⟨c_3, h⟩ := o_chk h
    refine wlM_8 C c_3 dX11_lates_13 14 rfl ?_
    refine g_icmp_ge C 85 dX11_lates_14 (by decide) 17 rfl (fun c_4 => ?_) (fun c_4 => ?_)
    · have h := o_pos h c_4
      refine g_iload_n C dX11_lates_85 rfl 1 rfl 86 rfl ?_
      exact g_iret C hr dX11_lates_86 h
    · have h := o_neg h c_4
      refine g_aload_n C dX11_lates_17 rfl 0 rfl 18 rfl ?_
      refine wgX11_152_0 C dX11_lates_18 21 rfl ?_
      refine g_iload_n C dX11_lates_21 rfl 2 rfl 22 rfl ?_
      obtain ⟨c_5, h⟩ := o_chk h
      refine wlM_45 C c_5 dX11_lates_22 23 rfl ?_
      refine g_aload_n C dX11_lates_23 rfl 0 rfl 24 rfl ?_
      refine wgX11_53_0 C dX11_lates_24 27 rfl ?_
      refine g_bipush C (v := 7) dX11_lates_27 (by decide) 29 rfl ?_
      refine g_aload_n C dX11_lates_29 rfl 0 rfl 30 rfl ?_
      refine wgX11_234_0 C dX11_lates_30 33 rfl ?_
      refine g_imul C dX11_lates_33 34 rfl ?_
      refine g_iload_n C dX11_lates_34 rfl 2 rfl 35 rfl ?_
      refine g_iadd C dX11_lates_35 36 rfl ?_
      obtain ⟨c_6, h⟩ := o_chk h
      refine wlM_12 C c_6 dX11_lates_36 37 rfl ?_
      refine g_isub C dX11_lates_37 38 rfl ?_
      obtain ⟨x3_7, ex3_7, h⟩ := o_lt h
      refine g_istore_n C (lv' := [(3, .int x3_7), (0, .ref (ad 0)), (1, .int x1), (2, .int x2)]) ex3_7 dX11_lates_38 rfl (by decide) rfl 39 rfl ?_
      refine g_aload_n C dX11_lates_39 rfl 1 rfl 40 rfl ?_
      refine wgX11_46_0 C dX11_lates_40 43 rfl ?_
      refine g_bipush C (v := 7) dX11_lates_43 (by decide) 45 rfl ?_
      refine g_aload_n C dX11_lates_45 rfl 1 rfl 46 rfl ?_
      refine wgX11_234_0 C dX11_lates_46 49 rfl ?_
      refine g_imul C dX11_lates_49 50 rfl ?_
      refine g_iload_n C dX11_lates_50 rfl 3 rfl 51 rfl ?_
      refine g_iadd C dX11_lates_51 52 rfl ?_
      obtain ⟨c_8, h⟩ := o_chk h
      refine wlM_10 C c_8 dX11_lates_52 53 rfl ?_
      refine g_if_eq C 79 dX11_lates_53 (by decide) 56 rfl (fun c_9 => ?_) (fun c_9 => ?_)
      · have h := o_pos h c_9
        obtain ⟨x2_10, ex2_10, h⟩ := o_lt h
        refine g_iinc C (lv' := [(2, .int x2_10), (3, .int x3_7), (0, .ref (ad 0)), (1, .int x1)]) ex2_10 dX11_lates_79 3 rfl (by decide) (by decide) rfl 82 rfl ?_
        refine g_goto C 4 dX11_lates_82 (by decide) ?_
        exact g_sub C [2, 3, 0] rfl (ih x1 x2_10 σ h)
      · have h := o_neg h c_9
        refine g_iload_n C dX11_lates_56 rfl 0 rfl 57 rfl ?_
        refine g_if_le C 79 dX11_lates_57 (by decide) 60 rfl (fun c_11 => ?_) (fun c_11 => ?_)
        · have h := o_pos h c_11
          obtain ⟨x2_12, ex2_12, h⟩ := o_lt h
          refine g_iinc C (lv' := [(2, .int x2_12), (3, .int x3_7), (0, .ref (ad 0)), (1, .int x1)]) ex2_12 dX11_lates_79 3 rfl (by decide) (by decide) rfl 82 rfl ?_
          refine g_goto C 4 dX11_lates_82 (by decide) ?_
          exact g_sub C [2, 3, 0] rfl (ih x1 x2_12 σ h)
        · have h := o_neg h c_11
          refine g_iload_n C dX11_lates_60 rfl 2 rfl 61 rfl ?_
          refine g_iload_n C dX11_lates_61 rfl 0 rfl 62 rfl ?_
          refine g_aload_n C dX11_lates_62 rfl 1 rfl 63 rfl ?_
          refine wgX11_56_0 C dX11_lates_63 66 rfl ?_
          refine g_bipush C (v := 7) dX11_lates_66 (by decide) 68 rfl ?_
          refine g_aload_n C dX11_lates_68 rfl 1 rfl 69 rfl ?_
          refine wgX11_234_0 C dX11_lates_69 72 rfl ?_
          refine g_imul C dX11_lates_72 73 rfl ?_
          refine g_iload_n C dX11_lates_73 rfl 3 rfl 74 rfl ?_
          refine g_iadd C dX11_lates_74 75 rfl ?_
          obtain ⟨c_13, h⟩ := o_chk h
          refine wlM_13 C c_13 dX11_lates_75 76 rfl ?_
          refine g_imul C dX11_lates_76 77 rfl ?_
          refine g_iadd C dX11_lates_77 78 rfl ?_
          obtain ⟨x1_14, ex1_14, h⟩ := o_lt h
          refine g_istore_n C (lv' := [(1, .int x1_14), (3, .int x3_7), (0, .ref (ad 0)), (2, .int x2)]) ex1_14 dX11_lates_78 rfl (by decide) rfl 79 rfl ?_
          obtain ⟨x2_15, ex2_15, h⟩ := o_lt h
          refine g_iinc C (lv' := [(2, .int x2_15), (1, .int x1_14), (3, .int x3_7), (0, .ref (ad 0))]) ex2_15 dX11_lates_79 3 rfl (by decide) (by decide) rfl 82 rfl ?_
          refine g_goto C 4 dX11_lates_82 (by decide) ?_
          exact g_sub C [3, 1, 0] rfl (ih x1_14 x2_15 σ h)
set_option maxHeartbeats 4000000 in
set_option maxRecDepth 100000 in
theorem kX11_lates {l : Launch} {D : va_G} {ad : Nat → Nat} {cI cJ cB cZ : ClassId}  {n : Nat}  {σ : ST} {res : Int32 × ST} (h : fX11_lates n σ = some res) : CMi l D (tyz cI cJ cB cZ) (wM ad cI cJ cB cZ) 0 yX11_lates cX11_lates 4 (some .int) [.ref (ad 0)] σ res := by
  refine cmi_body (own := RX11) (lv := [(0, .ref (ad 0))]) (by decide) rfl (wM_addr _ _ _ _ _) (Nat.le_of_ble_eq_true rfl) rfl (fun p e s m args below meth c A C hr => ?_)
  unfold fX11_lates at h
  refine g_iconst C (v := 0) dX11_lates_0 (by decide) 1 rfl ?_
  obtain ⟨x1_1, ex1_1, h⟩ := o_lt h
  refine g_istore_n C (lv' := [(1, .int x1_1), (0, .ref (ad 0))]) ex1_1 dX11_lates_1 rfl (by decide) rfl 2 rfl ?_
  refine g_iconst C (v := 0) dX11_lates_2 (by decide) 3 rfl ?_
  obtain ⟨x2_2, ex2_2, h⟩ := o_lt h
  refine g_istore_n C (lv' := [(2, .int x2_2), (1, .int x1_1), (0, .ref (ad 0))]) ex2_2 dX11_lates_3 rfl (by decide) rfl 4 rfl ?_
  exact g_sub C [2, 1, 0] rfl (kX11_lates_L4 C hr  n x1_1 x2_2 σ h)
end WK
/-! X11_nextRow private boolean nextRow(int); -/
def fX11_nextRow_L4 (k31 : Int32 → Int32 → ST → Option (Int32 × ST)) : Nat → Int32 → Int32 → ST → Option (Int32 × ST)
  | 0, _, _, _ => none
  | n + 1, x1, x2, σ => (if x2 < 0 then (k31 x1 x2 σ) else (if ix x2 7 then (if ix (x2 + ((1 : Int32))) 7 then (if (ldA σ 44 x2) ≤ (ldA σ 44 (x2 + ((1 : Int32)))) then (k31 x1 x2 σ) else (lt (x2 + (-1)) (fun x2_6 => (fX11_nextRow_L4 k31 n x1 x2_6 σ)))) else none) else none))
def fX11_nextRow_L41 (k62 : Int32 → Int32 → Int32 → ST → Option (Int32 × ST)) : Nat → Int32 → Int32 → Int32 → ST → Option (Int32 × ST)
  | 0, _, _, _, _ => none
  | n + 1, x1, x2, x3, σ => (if ix x3 7 then (if ix x2 7 then (if (ldA σ 44 x2) ≤ (ldA σ 44 x3) then (k62 x1 x2 x3 σ) else (lt (x3 + (-1)) (fun x3_15 => (fX11_nextRow_L41 k62 n x1 x2 x3_15 σ)))) else none) else none)
def fX11_nextRow_L100  : Nat → Int32 → Int32 → ST → Option (Int32 × ST)
  | 0, _, _, _ => none
  | n + 1, x5, x6, σ => (if x6 ≤ x5 then (some ((1 : Int32), σ)) else (if ix x5 7 then (lt (ldA σ 44 x5) (fun x4_31 => (if ix x6 7 then (if ix x5 7 then (lt (stA σ 44 x5 (ldA σ 44 x6)) (fun σ_34 => (if ix x6 7 then (lt (stA σ_34 44 x6 x4_31) (fun σ_36 => (lt (x5 + 1) (fun x5_37 => (lt (x6 + (-1)) (fun x6_38 => (fX11_nextRow_L100 n x5_37 x6_38 σ_36))))))) else none))) else none) else none))) else none))
def fX11_nextRow (n : Nat) (x1 : Int32) (σ : ST) : Option (Int32 × ST) :=
  (lt (x1 - ((2 : Int32))) (fun x2_1 => (fX11_nextRow_L4 (fun (x1_7 : Int32) (x2_8 : Int32) (σ_9 : ST) => (if 0 ≤ x2_8 then (lt (x1_7 - ((1 : Int32))) (fun x3_11 => (fX11_nextRow_L41 (fun (x1_16 : Int32) (x2_17 : Int32) (x3_18 : Int32) (σ_19 : ST) => (if ix x2_17 7 then (lt (ldA σ_19 44 x2_17) (fun x4_21 => (if ix x3_18 7 then (if ix x2_17 7 then (lt (stA σ_19 44 x2_17 (ldA σ_19 44 x3_18)) (fun σ_24 => (if ix x3_18 7 then (lt (stA σ_24 44 x3_18 x4_21) (fun σ_26 => (lt (x2_17 + ((1 : Int32))) (fun x5_27 => (lt (x1_16 - ((1 : Int32))) (fun x6_28 => (fX11_nextRow_L100 n x5_27 x6_28 σ_26))))))) else none))) else none) else none))) else none)) n x1_7 x2_8 x3_11 σ_9))) else (some ((0 : Int32), σ_9)))) n x1 x2_1 σ)))
section WK
variable {p : Program} {l : Launch} {e : Env} {R : Room} {s : State} {m : MethodId} {args : Array Value} {below : List Frame} {meth : Method} {c : Code} {Q : State → Prop}
variable {D : va_G} {ad : Nat → Nat} {cI cJ cB cZ : ClassId} {A : Nat → Prop} {cc : ByteArray} {nL lev : Nat}
variable {σ : ST} {pc : Nat} {lv : List (Nat × Value)} {st : List Value}
set_option maxHeartbeats 4000000 in
set_option maxRecDepth 100000 in
theorem kX11_nextRow_L4 (C : Ctx p l e (rmL 0) s m args below meth c D (tyz cI cJ cB cZ) (wM ad cI cJ cB cZ) A cX11_nextRow 7 0 RX11) (hr : meth.sig.returnType = some .boolean) {res : Int32 × ST} {k31 : Int32 → Int32 → ST → Option (Int32 × ST)} (hk31 : ∀ (x1 : Int32) (x2 : Int32) (σ : ST), k31 x1 x2 σ = some res → G p l e (rmL 0) s m args below meth c (MQ below (Qi D (tyz cI cJ cB cZ) (wM ad cI cJ cB cZ) A res) args s 0 0 A) D (wM ad cI cJ cB cZ) A 7 σ 31 [(0, .ref (ad 0)), (1, .int x1), (2, .int x2)] []) : ∀ (n : Nat) (x1 : Int32) (x2 : Int32) (σ : ST), fX11_nextRow_L4 k31 n x1 x2 σ = some res → G p l e (rmL 0) s m args below meth c (MQ below (Qi D (tyz cI cJ cB cZ) (wM ad cI cJ cB cZ) A res) args s 0 0 A) D (wM ad cI cJ cB cZ) A 7 σ 4 [(0, .ref (ad 0)), (1, .int x1), (2, .int x2)] [] := by
  intro n
  induction n with
  | zero => intro x1 x2 σ h; have h : none = some res := h; cases h
  | succ n ih =>
    intro x1 x2 σ h
    rw [fX11_nextRow_L4] at h
    refine g_iload_n C dX11_nextRow_4 rfl 2 rfl 5 rfl ?_
    refine g_if_lt C 31 dX11_nextRow_5 (by decide) 8 rfl (fun c_2 => ?_) (fun c_2 => ?_)
    · have h := o_pos h c_2
      exact g_sub C [0, 1, 2] rfl (hk31 x1 x2 σ h)
    · have h := o_neg h c_2
      refine g_aload_n C dX11_nextRow_8 rfl 0 rfl 9 rfl ?_
      refine wgX11_149_0 C dX11_nextRow_9 12 rfl ?_
      refine g_iload_n C dX11_nextRow_12 rfl 2 rfl 13 rfl ?_
      obtain ⟨c_3, h⟩ := o_chk h
      refine wlM_44 C c_3 dX11_nextRow_13 14 rfl ?_
      refine g_aload_n C dX11_nextRow_14 rfl 0 rfl 15 rfl ?_
      refine wgX11_149_0 C dX11_nextRow_15 18 rfl ?_
      refine g_iload_n C dX11_nextRow_18 rfl 2 rfl 19 rfl ?_
      refine g_iconst C (v := 1) dX11_nextRow_19 (by decide) 20 rfl ?_
      refine g_iadd C dX11_nextRow_20 21 rfl ?_
      obtain ⟨c_4, h⟩ := o_chk h
      refine wlM_44 C c_4 dX11_nextRow_21 22 rfl ?_
      refine g_icmp_le C 31 dX11_nextRow_22 (by decide) 25 rfl (fun c_5 => ?_) (fun c_5 => ?_)
      · have h := o_pos h c_5
        exact g_sub C [0, 1, 2] rfl (hk31 x1 x2 σ h)
      · have h := o_neg h c_5
        obtain ⟨x2_6, ex2_6, h⟩ := o_lt h
        refine g_iinc C (lv' := [(2, .int x2_6), (0, .ref (ad 0)), (1, .int x1)]) ex2_6 dX11_nextRow_25 2 rfl (by decide) (by decide) rfl 28 rfl ?_
        refine g_goto C 4 dX11_nextRow_28 (by decide) ?_
        exact g_sub C [1, 2, 0] rfl (ih x1 x2_6 σ h)
set_option maxHeartbeats 4000000 in
set_option maxRecDepth 100000 in
theorem kX11_nextRow_L41 (C : Ctx p l e (rmL 0) s m args below meth c D (tyz cI cJ cB cZ) (wM ad cI cJ cB cZ) A cX11_nextRow 7 0 RX11) (hr : meth.sig.returnType = some .boolean) {res : Int32 × ST} {k62 : Int32 → Int32 → Int32 → ST → Option (Int32 × ST)} (hk62 : ∀ (x1 : Int32) (x2 : Int32) (x3 : Int32) (σ : ST), k62 x1 x2 x3 σ = some res → G p l e (rmL 0) s m args below meth c (MQ below (Qi D (tyz cI cJ cB cZ) (wM ad cI cJ cB cZ) A res) args s 0 0 A) D (wM ad cI cJ cB cZ) A 7 σ 62 [(0, .ref (ad 0)), (1, .int x1), (2, .int x2), (3, .int x3)] []) : ∀ (n : Nat) (x1 : Int32) (x2 : Int32) (x3 : Int32) (σ : ST), fX11_nextRow_L41 k62 n x1 x2 x3 σ = some res → G p l e (rmL 0) s m args below meth c (MQ below (Qi D (tyz cI cJ cB cZ) (wM ad cI cJ cB cZ) A res) args s 0 0 A) D (wM ad cI cJ cB cZ) A 7 σ 41 [(0, .ref (ad 0)), (1, .int x1), (2, .int x2), (3, .int x3)] [] := by
  intro n
  induction n with
  | zero => intro x1 x2 x3 σ h; have h : none = some res := h; cases h
  | succ n ih =>
    intro x1 x2 x3 σ h
    rw [fX11_nextRow_L41] at h
    refine g_aload_n C dX11_nextRow_41 rfl 0 rfl 42 rfl ?_
    refine wgX11_149_0 C dX11_nextRow_42 45 rfl ?_
    refine g_iload_n C dX11_nextRow_45 rfl 3 rfl 46 rfl ?_
    obtain ⟨c_12, h⟩ := o_chk h
    refine wlM_44 C c_12 dX11_nextRow_46 47 rfl ?_
    refine g_aload_n C dX11_nextRow_47 rfl 0 rfl 48 rfl ?_
    refine wgX11_149_0 C dX11_nextRow_48 51 rfl ?_
    refine g_iload_n C dX11_nextRow_51 rfl 2 rfl 52 rfl ?_
    obtain ⟨c_13, h⟩ := o_chk h
    refine wlM_44 C c_13 dX11_nextRow_52 53 rfl ?_
    refine g_icmp_ge C 62 dX11_nextRow_53 (by decide) 56 rfl (fun c_14 => ?_) (fun c_14 => ?_)
    · have h := o_pos h c_14
      exact g_sub C [0, 1, 2, 3] rfl (hk62 x1 x2 x3 σ h)
    · have h := o_neg h c_14
      obtain ⟨x3_15, ex3_15, h⟩ := o_lt h
      refine g_iinc C (lv' := [(3, .int x3_15), (0, .ref (ad 0)), (1, .int x1), (2, .int x2)]) ex3_15 dX11_nextRow_56 3 rfl (by decide) (by decide) rfl 59 rfl ?_
      refine g_goto C 41 dX11_nextRow_59 (by decide) ?_
      exact g_sub C [1, 2, 3, 0] rfl (ih x1 x2 x3_15 σ h)
set_option maxHeartbeats 4000000 in
set_option maxRecDepth 100000 in
theorem kX11_nextRow_L100 (C : Ctx p l e (rmL 0) s m args below meth c D (tyz cI cJ cB cZ) (wM ad cI cJ cB cZ) A cX11_nextRow 7 0 RX11) (hr : meth.sig.returnType = some .boolean) {res : Int32 × ST}   : ∀ (n : Nat) (x5 : Int32) (x6 : Int32) (σ : ST), fX11_nextRow_L100 n x5 x6 σ = some res → G p l e (rmL 0) s m args below meth c (MQ below (Qi D (tyz cI cJ cB cZ) (wM ad cI cJ cB cZ) A res) args s 0 0 A) D (wM ad cI cJ cB cZ) A 7 σ 100 [(0, .ref (ad 0)), (5, .int x5), (6, .int x6)] [] := by
  intro n
  induction n with
  | zero => intro x5 x6 σ h; have h : none = some res := h; cases h
  | succ n ih =>
    intro x5 x6 σ h
    rw [fX11_nextRow_L100] at h
    refine g_iload C dX11_nextRow_100 1 rfl 102 rfl ?_
    refine g_iload C dX11_nextRow_102 2 rfl 104 rfl ?_
    refine g_icmp_ge C 148 dX11_nextRow_104 (by decide) 107 rfl (fun c_29 => ?_) (fun c_29 => ?_)
    · have h := o_pos h c_29
      refine g_iconst C (v := 1) dX11_nextRow_148 (by decide) 149 rfl ?_
      exact g_zret C hr (by decide) dX11_nextRow_149 h
    · have h := o_neg h c_29
      refine g_aload_n C dX11_nextRow_107 rfl 0 rfl 108 rfl ?_
      refine wgX11_149_0 C dX11_nextRow_108 111 rfl ?_
      refine g_iload C dX11_nextRow_111 1 rfl 113 rfl ?_
      obtain ⟨c_30, h⟩ := o_chk h
      refine wlM_44 C c_30 dX11_nextRow_113 114 rfl ?_
      obtain ⟨x4_31, ex4_31, h⟩ := o_lt h
      refine g_istore C (lv' := [(4, .int x4_31), (0, .ref (ad 0)), (5, .int x5), (6, .int x6)]) ex4_31 dX11_nextRow_114 (by decide) rfl 116 rfl ?_
      refine g_aload_n C dX11_nextRow_116 rfl 1 rfl 117 rfl ?_
      refine wgX11_149_0 C dX11_nextRow_117 120 rfl ?_
      refine g_iload C dX11_nextRow_120 2 rfl 122 rfl ?_
      refine g_aload_n C dX11_nextRow_122 rfl 1 rfl 123 rfl ?_
      refine wgX11_149_0 C dX11_nextRow_123 126 rfl ?_
      refine g_iload C dX11_nextRow_126 3 rfl 128 rfl ?_
      obtain ⟨c_32, h⟩ := o_chk h
      refine wlM_44 C c_32 dX11_nextRow_128 129 rfl ?_
      obtain ⟨c_33, h⟩ := o_chk h
      obtain ⟨σ_34, eσ_34, h⟩ := o_lt h
      refine wtM_44 C eσ_34 c_33 dX11_nextRow_129 130 rfl ?_
      refine g_aload_n C dX11_nextRow_130 rfl 1 rfl 131 rfl ?_
      refine wgX11_149_0 C dX11_nextRow_131 134 rfl ?_
      refine g_iload C dX11_nextRow_134 3 rfl 136 rfl ?_
      refine g_iload C dX11_nextRow_136 0 rfl 138 rfl ?_
      obtain ⟨c_35, h⟩ := o_chk h
      obtain ⟨σ_36, eσ_36, h⟩ := o_lt h
      refine wtM_44 C eσ_36 c_35 dX11_nextRow_138 139 rfl ?_
      obtain ⟨x5_37, ex5_37, h⟩ := o_lt h
      refine g_iinc C (lv' := [(5, .int x5_37), (4, .int x4_31), (0, .ref (ad 0)), (6, .int x6)]) ex5_37 dX11_nextRow_139 2 rfl (by decide) (by decide) rfl 142 rfl ?_
      obtain ⟨x6_38, ex6_38, h⟩ := o_lt h
      refine g_iinc C (lv' := [(6, .int x6_38), (5, .int x5_37), (4, .int x4_31), (0, .ref (ad 0))]) ex6_38 dX11_nextRow_142 3 rfl (by decide) (by decide) rfl 145 rfl ?_
      refine g_goto C 100 dX11_nextRow_145 (by decide) ?_
      exact g_sub C [3, 1, 0] rfl (ih x5_37 x6_38 σ_36 h)
set_option maxHeartbeats 4000000 in
set_option maxRecDepth 100000 in
theorem kX11_nextRow {l : Launch} {D : va_G} {ad : Nat → Nat} {cI cJ cB cZ : ClassId}  {n : Nat} {x1 : Int32} {σ : ST} {res : Int32 × ST} (h : fX11_nextRow n x1 σ = some res) : CMi l D (tyz cI cJ cB cZ) (wM ad cI cJ cB cZ) 0 yX11_nextRow cX11_nextRow 7 (some .boolean) [.ref (ad 0), .int x1] σ res := by
  refine cmi_body (own := RX11) (lv := [(0, .ref (ad 0)), (1, .int x1)]) (by decide) rfl (wM_addr _ _ _ _ _) (Nat.le_of_ble_eq_true rfl) rfl (fun p e s m args below meth c A C hr => ?_)
  unfold fX11_nextRow at h
  refine g_iload_n C dX11_nextRow_0 rfl 1 rfl 1 rfl ?_
  refine g_iconst C (v := 2) dX11_nextRow_1 (by decide) 2 rfl ?_
  refine g_isub C dX11_nextRow_2 3 rfl ?_
  obtain ⟨x2_1, ex2_1, h⟩ := o_lt h
  refine g_istore_n C (lv' := [(2, .int x2_1), (0, .ref (ad 0)), (1, .int x1)]) ex2_1 dX11_nextRow_3 rfl (by decide) rfl 4 rfl ?_
  exact g_sub C [1, 2, 0] rfl (kX11_nextRow_L4 C hr (fun x1_7 x2_8 σ_9 h => by
      refine g_iload_n C dX11_nextRow_31 rfl 2 rfl 32 rfl ?_
      refine g_if_ge C 37 dX11_nextRow_32 (by decide) 35 rfl (fun c_10 => ?_) (fun c_10 => ?_)
      · have h := o_pos h c_10
        refine g_iload_n C dX11_nextRow_37 rfl 1 rfl 38 rfl ?_
        refine g_iconst C (v := 1) dX11_nextRow_38 (by decide) 39 rfl ?_
        refine g_isub C dX11_nextRow_39 40 rfl ?_
        obtain ⟨x3_11, ex3_11, h⟩ := o_lt h
        refine g_istore_n C (lv' := [(3, .int x3_11), (0, .ref (ad 0)), (1, .int x1_7), (2, .int x2_8)]) ex3_11 dX11_nextRow_40 rfl (by decide) rfl 41 rfl ?_
        exact g_sub C [1, 2, 3, 0] rfl (kX11_nextRow_L41 C hr (fun x1_16 x2_17 x3_18 σ_19 h => by
            refine g_aload_n C dX11_nextRow_62 rfl 0 rfl 63 rfl ?_
            refine wgX11_149_0 C dX11_nextRow_63 66 rfl ?_
            refine g_iload_n C dX11_nextRow_66 rfl 2 rfl 67 rfl ?_
            obtain ⟨c_20, h⟩ := o_chk h
            refine wlM_44 C c_20 dX11_nextRow_67 68 rfl ?_
            obtain ⟨x4_21, ex4_21, h⟩ := o_lt h
            refine g_istore C (lv' := [(4, .int x4_21), (0, .ref (ad 0)), (1, .int x1_16), (2, .int x2_17), (3, .int x3_18)]) ex4_21 dX11_nextRow_68 (by decide) rfl 70 rfl ?_
            refine g_aload_n C dX11_nextRow_70 rfl 1 rfl 71 rfl ?_
            refine wgX11_149_0 C dX11_nextRow_71 74 rfl ?_
            refine g_iload_n C dX11_nextRow_74 rfl 3 rfl 75 rfl ?_
            refine g_aload_n C dX11_nextRow_75 rfl 1 rfl 76 rfl ?_
            refine wgX11_149_0 C dX11_nextRow_76 79 rfl ?_
            refine g_iload_n C dX11_nextRow_79 rfl 4 rfl 80 rfl ?_
            obtain ⟨c_22, h⟩ := o_chk h
            refine wlM_44 C c_22 dX11_nextRow_80 81 rfl ?_
            obtain ⟨c_23, h⟩ := o_chk h
            obtain ⟨σ_24, eσ_24, h⟩ := o_lt h
            refine wtM_44 C eσ_24 c_23 dX11_nextRow_81 82 rfl ?_
            refine g_aload_n C dX11_nextRow_82 rfl 1 rfl 83 rfl ?_
            refine wgX11_149_0 C dX11_nextRow_83 86 rfl ?_
            refine g_iload_n C dX11_nextRow_86 rfl 4 rfl 87 rfl ?_
            refine g_iload C dX11_nextRow_87 0 rfl 89 rfl ?_
            obtain ⟨c_25, h⟩ := o_chk h
            obtain ⟨σ_26, eσ_26, h⟩ := o_lt h
            refine wtM_44 C eσ_26 c_25 dX11_nextRow_89 90 rfl ?_
            refine g_iload_n C dX11_nextRow_90 rfl 3 rfl 91 rfl ?_
            refine g_iconst C (v := 1) dX11_nextRow_91 (by decide) 92 rfl ?_
            refine g_iadd C dX11_nextRow_92 93 rfl ?_
            obtain ⟨x5_27, ex5_27, h⟩ := o_lt h
            refine g_istore C (lv' := [(5, .int x5_27), (4, .int x4_21), (0, .ref (ad 0)), (1, .int x1_16), (2, .int x2_17), (3, .int x3_18)]) ex5_27 dX11_nextRow_93 (by decide) rfl 95 rfl ?_
            refine g_iload_n C dX11_nextRow_95 rfl 3 rfl 96 rfl ?_
            refine g_iconst C (v := 1) dX11_nextRow_96 (by decide) 97 rfl ?_
            refine g_isub C dX11_nextRow_97 98 rfl ?_
            obtain ⟨x6_28, ex6_28, h⟩ := o_lt h
            refine g_istore C (lv' := [(6, .int x6_28), (5, .int x5_27), (4, .int x4_21), (0, .ref (ad 0)), (1, .int x1_16), (2, .int x2_17), (3, .int x3_18)]) ex6_28 dX11_nextRow_98 (by decide) rfl 100 rfl ?_
            exact g_sub C [3, 1, 0] rfl (kX11_nextRow_L100 C hr  n x5_27 x6_28 σ_26 h)) n x1_7 x2_8 x3_11 σ_9 h)
      · have h := o_neg h c_10
        refine g_iconst C (v := 0) dX11_nextRow_35 (by decide) 36 rfl ?_
        exact g_zret C hr (by decide) dX11_nextRow_36 h) n x1 x2_1 σ h)
end WK
