/-! X11_row public int row(int, int, int); -/
def fX11_row (x1 : Int32) (x2 : Int32) (x3 : Int32) (σ : ST) : Option (Int32 × ST) :=
  (Option.bind (fX11_isTable x1 σ) (fun q_1 => (if q_1.1 = 0 then (some ((-1 : Int32), q_1.2)) else (if x2 < 0 then (some ((-1 : Int32), q_1.2)) else (if ((7 : Int32)) < x2 then (some ((-1 : Int32), q_1.2)) else (if ix x1 6 then (if (ldA q_1.2 25 x1) = ((40 : Int32)) then (some ((-1 : Int32), q_1.2)) else (if ix x1 6 then (if ix ((((40 : Int32)) * x1) + (ldA q_1.2 25 x1)) 240 then (lt (stA q_1.2 26 ((((40 : Int32)) * x1) + (ldA q_1.2 25 x1)) x2) (fun σ_9 => (if ix x1 6 then (if ix ((((40 : Int32)) * x1) + (ldA σ_9 25 x1)) 240 then (lt (stA σ_9 27 ((((40 : Int32)) * x1) + (ldA σ_9 25 x1)) x3) (fun σ_12 => (if ix x1 6 then (if ix x1 6 then (lt (stA σ_12 25 x1 ((ldA σ_12 25 x1) + ((1 : Int32)))) (fun σ_15 => (if ix x1 6 then (some (ldA σ_15 25 x1, σ_15)) else none))) else none) else none))) else none) else none))) else none) else none)) else none))))))
section WK
variable {p : Program} {l : Launch} {e : Env} {R : Room} {s : State} {m : MethodId} {args : Array Value} {below : List Frame} {meth : Method} {c : Code} {Q : State → Prop}
variable {D : va_G} {ad : Nat → Nat} {cI cJ cB cZ : ClassId} {A : Nat → Prop} {cc : ByteArray} {nL lev : Nat}
variable {σ : ST} {pc : Nat} {lv : List (Nat × Value)} {st : List Value}
set_option maxHeartbeats 4000000 in
set_option maxRecDepth 100000 in
theorem kX11_row {l : Launch} {D : va_G} {ad : Nat → Nat} {cI cJ cB cZ : ClassId}  {x1 : Int32} {x2 : Int32} {x3 : Int32} {σ : ST} {res : Int32 × ST} (h : fX11_row x1 x2 x3 σ = some res) : CMi l D (tyz cI cJ cB cZ) (wM ad cI cJ cB cZ) 1 yX11_row cX11_row 4 (some .int) [.ref (ad 0), .int x1, .int x2, .int x3] σ res := by
  refine cmi_body (own := RX11) (lv := [(0, .ref (ad 0)), (1, .int x1), (2, .int x2), (3, .int x3)]) (by decide) rfl (wM_addr _ _ _ _ _) (Nat.le_of_ble_eq_true rfl) rfl (fun p e s m args below meth c A C hr => ?_)
  unfold fX11_row at h
  refine g_iload_n C dX11_row_0 rfl 1 rfl 1 rfl ?_
  obtain ⟨q_1, hq_1, h⟩ := o_bind h
  refine wcX11_292_M C (kX11_isTable hq_1) (by decide) (Nat.le_of_ble_eq_true rfl) dX11_row_1 4 rfl ?_
  refine g_if_eq C 28 dX11_row_4 (by decide) 7 rfl (fun c_2 => ?_) (fun c_2 => ?_)
  · have h := o_pos h c_2
    refine g_iconst C (v := -1) dX11_row_28 (by decide) 29 rfl ?_
    exact g_iret C hr dX11_row_29 h
  · have h := o_neg h c_2
    refine g_iload_n C dX11_row_7 rfl 2 rfl 8 rfl ?_
    refine g_if_lt C 28 dX11_row_8 (by decide) 11 rfl (fun c_3 => ?_) (fun c_3 => ?_)
    · have h := o_pos h c_3
      refine g_iconst C (v := -1) dX11_row_28 (by decide) 29 rfl ?_
      exact g_iret C hr dX11_row_29 h
    · have h := o_neg h c_3
      refine g_iload_n C dX11_row_11 rfl 2 rfl 12 rfl ?_
      refine g_bipush C (v := 7) dX11_row_12 (by decide) 14 rfl ?_
      refine g_icmp_gt C 28 dX11_row_14 (by decide) 17 rfl (fun c_4 => ?_) (fun c_4 => ?_)
      · have h := o_pos h c_4
        refine g_iconst C (v := -1) dX11_row_28 (by decide) 29 rfl ?_
        exact g_iret C hr dX11_row_29 h
      · have h := o_neg h c_4
        refine g_aload_n C dX11_row_17 rfl 0 rfl 18 rfl ?_
        refine wgX11_92_0 C dX11_row_18 21 rfl ?_
        refine g_iload_n C dX11_row_21 rfl 1 rfl 22 rfl ?_
        obtain ⟨c_5, h⟩ := o_chk h
        refine wlM_25 C c_5 dX11_row_22 23 rfl ?_
        refine g_bipush C (v := 40) dX11_row_23 (by decide) 25 rfl ?_
        refine g_icmp_ne C 30 dX11_row_25 (by decide) 28 rfl (fun c_6 => ?_) (fun c_6 => ?_)
        · have h := o_neg h c_6
          refine g_aload_n C dX11_row_30 rfl 0 rfl 31 rfl ?_
          refine wgX11_95_0 C dX11_row_31 34 rfl ?_
          refine g_bipush C (v := 40) dX11_row_34 (by decide) 36 rfl ?_
          refine g_iload_n C dX11_row_36 rfl 1 rfl 37 rfl ?_
          refine g_imul C dX11_row_37 38 rfl ?_
          refine g_aload_n C dX11_row_38 rfl 0 rfl 39 rfl ?_
          refine wgX11_92_0 C dX11_row_39 42 rfl ?_
          refine g_iload_n C dX11_row_42 rfl 1 rfl 43 rfl ?_
          obtain ⟨c_7, h⟩ := o_chk h
          refine wlM_25 C c_7 dX11_row_43 44 rfl ?_
          refine g_iadd C dX11_row_44 45 rfl ?_
          refine g_iload_n C dX11_row_45 rfl 2 rfl 46 rfl ?_
          obtain ⟨c_8, h⟩ := o_chk h
          obtain ⟨σ_9, eσ_9, h⟩ := o_lt h
          refine wtM_26 C eσ_9 c_8 dX11_row_46 47 rfl ?_
          refine g_aload_n C dX11_row_47 rfl 0 rfl 48 rfl ?_
          refine wgX11_98_0 C dX11_row_48 51 rfl ?_
          refine g_bipush C (v := 40) dX11_row_51 (by decide) 53 rfl ?_
          refine g_iload_n C dX11_row_53 rfl 1 rfl 54 rfl ?_
          refine g_imul C dX11_row_54 55 rfl ?_
          refine g_aload_n C dX11_row_55 rfl 0 rfl 56 rfl ?_
          refine wgX11_92_0 C dX11_row_56 59 rfl ?_
          refine g_iload_n C dX11_row_59 rfl 1 rfl 60 rfl ?_
          obtain ⟨c_10, h⟩ := o_chk h
          refine wlM_25 C c_10 dX11_row_60 61 rfl ?_
          refine g_iadd C dX11_row_61 62 rfl ?_
          refine g_iload_n C dX11_row_62 rfl 3 rfl 63 rfl ?_
          obtain ⟨c_11, h⟩ := o_chk h
          obtain ⟨σ_12, eσ_12, h⟩ := o_lt h
          refine wtM_27 C eσ_12 c_11 dX11_row_63 64 rfl ?_
          refine g_aload_n C dX11_row_64 rfl 0 rfl 65 rfl ?_
          refine wgX11_92_0 C dX11_row_65 68 rfl ?_
          refine g_iload_n C dX11_row_68 rfl 1 rfl 69 rfl ?_
          refine g_dup2 C dX11_row_69 rfl rfl 70 rfl ?_
          obtain ⟨c_13, h⟩ := o_chk h
          refine wlM_25 C c_13 dX11_row_70 71 rfl ?_
          refine g_iconst C (v := 1) dX11_row_71 (by decide) 72 rfl ?_
          refine g_iadd C dX11_row_72 73 rfl ?_
          obtain ⟨c_14, h⟩ := o_chk h
          obtain ⟨σ_15, eσ_15, h⟩ := o_lt h
          refine wtM_25 C eσ_15 c_14 dX11_row_73 74 rfl ?_
          refine g_aload_n C dX11_row_74 rfl 0 rfl 75 rfl ?_
          refine wgX11_92_0 C dX11_row_75 78 rfl ?_
          refine g_iload_n C dX11_row_78 rfl 1 rfl 79 rfl ?_
          obtain ⟨c_16, h⟩ := o_chk h
          refine wlM_25 C c_16 dX11_row_79 80 rfl ?_
          exact g_iret C hr dX11_row_80 h
        · have h := o_pos h c_6
          refine g_iconst C (v := -1) dX11_row_28 (by decide) 29 rfl ?_
          exact g_iret C hr dX11_row_29 h
end WK
/-! X11_land public int land(int); -/
def fX11_land_L26 (k71 : Int32 → ST → Option (Int32 × ST)) : Nat → Int32 → Int32 → ST → Option (Int32 × ST)
  | 0, _, _, _ => none
  | n + 1, x1, x2, σ => (if ix x1 6 then (if ((((40 : Int32)) * x1) + (ldA σ 28 x1)) ≤ x2 then (k71 x1 σ) else (if ix x2 240 then (if ix x2 240 then (lt (stA σ 29 x2 (ldA σ 26 x2)) (fun σ_11 => (if ix x2 240 then (if ix x2 240 then (lt (stA σ_11 30 x2 (ldA σ_11 27 x2)) (fun σ_14 => (lt (x2 + 1) (fun x2_15 => (fX11_land_L26 k71 n x1 x2_15 σ_14))))) else none) else none))) else none) else none)) else none)
def fX11_land_L143 (k171 : Int32 → Int32 → ST → Option (Int32 × ST)) : Nat → Int32 → Int32 → Int32 → ST → Option (Int32 × ST)
  | 0, _, _, _, _ => none
  | n + 1, x1, x2, x3, σ => (if ((3 : Int32)) ≤ x3 then (k171 x1 x2 σ) else (if ix x3 3 then (if (ldA σ 33 x3) = x2 then (if ix x3 3 then (lt (stA σ 33 x3 ((-1 : Int32))) (fun σ_39 => (lt (x3 + 1) (fun x3_40 => (fX11_land_L143 k171 n x1 x2 x3_40 σ_39))))) else none) else (lt (x3 + 1) (fun x3_37 => (fX11_land_L143 k171 n x1 x2 x3_37 σ)))) else none))
def fX11_land_L90  : Nat → Int32 → Int32 → ST → Option (Int32 × ST)
  | 0, _, _, _ => none
  | n + 1, x1, x2, σ => (if ix (gI σ 11) 2 then (if (ldA σ 8 (gI σ 11)) ≤ x2 then (if ix x1 6 then (some (ldA σ 24 x1, σ)) else none) else (if ix ((((7 : Int32)) * (gI σ 11)) + x2) 14 then (if (((ldA σ 18 ((((7 : Int32)) * (gI σ 11)) + x2)) >>> (x1 &&& 31)) &&& ((1 : Int32))) = 0 then (lt (x2 + 1) (fun x2_45 => (fX11_land_L90 n x1 x2_45 σ))) else (if ix x2 7 then (lt (stA σ 35 x2 ((-1 : Int32))) (fun σ_30 => (if ix x2 7 then (lt (stA σ_30 37 x2 ((0 : Int32))) (fun σ_32 => (lt ((0 : Int32)) (fun x3_33 => (fX11_land_L143 (fun (x1_41 : Int32) (x2_42 : Int32) (σ_43 : ST) => (lt (x2_42 + 1) (fun x2_44 => (fX11_land_L90 n x1_41 x2_44 σ_43)))) n x1 x2 x3_33 σ_32))))) else none))) else none)) else none)) else none)
def fX11_land (n : Nat) (x1 : Int32) (σ : ST) : Option (Int32 × ST) :=
  (Option.bind (fX11_isTable x1 σ) (fun q_1 => (if q_1.1 = 0 then (some ((-1 : Int32), q_1.2)) else (if ix x1 6 then (if ix x1 6 then (lt (stA q_1.2 28 x1 (ldA q_1.2 25 x1)) (fun σ_5 => (lt (((40 : Int32)) * x1) (fun x2_6 => (fX11_land_L26 (fun (x1_16 : Int32) (σ_17 : ST) => (if ix x1_16 6 then (lt (stA σ_17 25 x1_16 ((0 : Int32))) (fun σ_19 => (if ix x1_16 6 then (if ix x1_16 6 then (lt (stA σ_19 24 x1_16 ((ldA σ_19 24 x1_16) + ((1 : Int32)))) (fun σ_22 => (lt ((0 : Int32)) (fun x2_23 => (fX11_land_L90 n x1_16 x2_23 σ_22))))) else none) else none))) else none)) n x1 x2_6 σ_5))))) else none) else none))))
section WK
variable {p : Program} {l : Launch} {e : Env} {R : Room} {s : State} {m : MethodId} {args : Array Value} {below : List Frame} {meth : Method} {c : Code} {Q : State → Prop}
variable {D : va_G} {ad : Nat → Nat} {cI cJ cB cZ : ClassId} {A : Nat → Prop} {cc : ByteArray} {nL lev : Nat}
variable {σ : ST} {pc : Nat} {lv : List (Nat × Value)} {st : List Value}
set_option maxHeartbeats 4000000 in
set_option maxRecDepth 100000 in
theorem kX11_land_L26 (C : Ctx p l e (rmL 1) s m args below meth c D (tyz cI cJ cB cZ) (wM ad cI cJ cB cZ) A cX11_land 4 1 RX11) (hr : meth.sig.returnType = some .int) {res : Int32 × ST} {k71 : Int32 → ST → Option (Int32 × ST)} (hk71 : ∀ (x1 : Int32) (σ : ST), k71 x1 σ = some res → G p l e (rmL 1) s m args below meth c (MQ below (Qi D (tyz cI cJ cB cZ) (wM ad cI cJ cB cZ) A res) args s 0 0 A) D (wM ad cI cJ cB cZ) A 4 σ 71 [(0, .ref (ad 0)), (1, .int x1)] []) : ∀ (n : Nat) (x1 : Int32) (x2 : Int32) (σ : ST), fX11_land_L26 k71 n x1 x2 σ = some res → G p l e (rmL 1) s m args below meth c (MQ below (Qi D (tyz cI cJ cB cZ) (wM ad cI cJ cB cZ) A res) args s 0 0 A) D (wM ad cI cJ cB cZ) A 4 σ 26 [(0, .ref (ad 0)), (1, .int x1), (2, .int x2)] [] := by
  intro n
  induction n with
  | zero => intro x1 x2 σ h; have h : none = some res := h; cases h
  | succ n ih =>
    intro x1 x2 σ h
    rw [fX11_land_L26] at h
    refine g_iload_n C dX11_land_26 rfl 2 rfl 27 rfl ?_
    refine g_bipush C (v := 40) dX11_land_27 (by decide) 29 rfl ?_
    refine g_iload_n C dX11_land_29 rfl 1 rfl 30 rfl ?_
    refine g_imul C dX11_land_30 31 rfl ?_
    refine g_aload_n C dX11_land_31 rfl 0 rfl 32 rfl ?_
    refine wgX11_101_0 C dX11_land_32 35 rfl ?_
    refine g_iload_n C dX11_land_35 rfl 1 rfl 36 rfl ?_
    obtain ⟨c_7, h⟩ := o_chk h
    refine wlM_28 C c_7 dX11_land_36 37 rfl ?_
    refine g_iadd C dX11_land_37 38 rfl ?_
    refine g_icmp_ge C 71 dX11_land_38 (by decide) 41 rfl (fun c_8 => ?_) (fun c_8 => ?_)
    · have h := o_pos h c_8
      exact g_sub C [0, 1] rfl (hk71 x1 σ h)
    · have h := o_neg h c_8
      refine g_aload_n C dX11_land_41 rfl 0 rfl 42 rfl ?_
      refine wgX11_104_0 C dX11_land_42 45 rfl ?_
      refine g_iload_n C dX11_land_45 rfl 2 rfl 46 rfl ?_
      refine g_aload_n C dX11_land_46 rfl 0 rfl 47 rfl ?_
      refine wgX11_95_0 C dX11_land_47 50 rfl ?_
      refine g_iload_n C dX11_land_50 rfl 2 rfl 51 rfl ?_
      obtain ⟨c_9, h⟩ := o_chk h
      refine wlM_26 C c_9 dX11_land_51 52 rfl ?_
      obtain ⟨c_10, h⟩ := o_chk h
      obtain ⟨σ_11, eσ_11, h⟩ := o_lt h
      refine wtM_29 C eσ_11 c_10 dX11_land_52 53 rfl ?_
      refine g_aload_n C dX11_land_53 rfl 0 rfl 54 rfl ?_
      refine wgX11_107_0 C dX11_land_54 57 rfl ?_
      refine g_iload_n C dX11_land_57 rfl 2 rfl 58 rfl ?_
      refine g_aload_n C dX11_land_58 rfl 0 rfl 59 rfl ?_
      refine wgX11_98_0 C dX11_land_59 62 rfl ?_
      refine g_iload_n C dX11_land_62 rfl 2 rfl 63 rfl ?_
      obtain ⟨c_12, h⟩ := o_chk h
      refine wlM_27 C c_12 dX11_land_63 64 rfl ?_
      obtain ⟨c_13, h⟩ := o_chk h
      obtain ⟨σ_14, eσ_14, h⟩ := o_lt h
      refine wtM_30 C eσ_14 c_13 dX11_land_64 65 rfl ?_
      obtain ⟨x2_15, ex2_15, h⟩ := o_lt h
      refine g_iinc C (lv' := [(2, .int x2_15), (0, .ref (ad 0)), (1, .int x1)]) ex2_15 dX11_land_65 2 rfl (by decide) (by decide) rfl 68 rfl ?_
      refine g_goto C 26 dX11_land_68 (by decide) ?_
      exact g_sub C [1, 2, 0] rfl (ih x1 x2_15 σ_14 h)
set_option maxHeartbeats 4000000 in
set_option maxRecDepth 100000 in
theorem kX11_land_L143 (C : Ctx p l e (rmL 1) s m args below meth c D (tyz cI cJ cB cZ) (wM ad cI cJ cB cZ) A cX11_land 4 1 RX11) (hr : meth.sig.returnType = some .int) {res : Int32 × ST} {k171 : Int32 → Int32 → ST → Option (Int32 × ST)} (hk171 : ∀ (x1 : Int32) (x2 : Int32) (σ : ST), k171 x1 x2 σ = some res → G p l e (rmL 1) s m args below meth c (MQ below (Qi D (tyz cI cJ cB cZ) (wM ad cI cJ cB cZ) A res) args s 0 0 A) D (wM ad cI cJ cB cZ) A 4 σ 171 [(0, .ref (ad 0)), (1, .int x1), (2, .int x2)] []) : ∀ (n : Nat) (x1 : Int32) (x2 : Int32) (x3 : Int32) (σ : ST), fX11_land_L143 k171 n x1 x2 x3 σ = some res → G p l e (rmL 1) s m args below meth c (MQ below (Qi D (tyz cI cJ cB cZ) (wM ad cI cJ cB cZ) A res) args s 0 0 A) D (wM ad cI cJ cB cZ) A 4 σ 143 [(0, .ref (ad 0)), (1, .int x1), (2, .int x2), (3, .int x3)] [] := by
  intro n
  induction n with
  | zero => intro x1 x2 x3 σ h; have h : none = some res := h; cases h
  | succ n ih =>
    intro x1 x2 x3 σ h
    rw [fX11_land_L143] at h
    refine g_iload_n C dX11_land_143 rfl 3 rfl 144 rfl ?_
    refine g_iconst C (v := 3) dX11_land_144 (by decide) 145 rfl ?_
    refine g_icmp_ge C 171 dX11_land_145 (by decide) 148 rfl (fun c_34 => ?_) (fun c_34 => ?_)
    · have h := o_pos h c_34
      exact g_sub C [0, 1, 2] rfl (hk171 x1 x2 σ h)
    · have h := o_neg h c_34
      refine g_aload_n C dX11_land_148 rfl 0 rfl 149 rfl ?_
      refine wgX11_116_0 C dX11_land_149 152 rfl ?_
      refine g_iload_n C dX11_land_152 rfl 3 rfl 153 rfl ?_
      obtain ⟨c_35, h⟩ := o_chk h
      refine wlM_33 C c_35 dX11_land_153 154 rfl ?_
      refine g_iload_n C dX11_land_154 rfl 2 rfl 155 rfl ?_
      refine g_icmp_ne C 165 dX11_land_155 (by decide) 158 rfl (fun c_36 => ?_) (fun c_36 => ?_)
      · have h := o_neg h c_36
        obtain ⟨x3_37, ex3_37, h⟩ := o_lt h
        refine g_iinc C (lv' := [(3, .int x3_37), (0, .ref (ad 0)), (1, .int x1), (2, .int x2)]) ex3_37 dX11_land_165 3 rfl (by decide) (by decide) rfl 168 rfl ?_
        refine g_goto C 143 dX11_land_168 (by decide) ?_
        exact g_sub C [1, 2, 3, 0] rfl (ih x1 x2 x3_37 σ h)
      · have h := o_pos h c_36
        refine g_aload_n C dX11_land_158 rfl 0 rfl 159 rfl ?_
        refine wgX11_116_0 C dX11_land_159 162 rfl ?_
        refine g_iload_n C dX11_land_162 rfl 3 rfl 163 rfl ?_
        refine g_iconst C (v := -1) dX11_land_163 (by decide) 164 rfl ?_
        obtain ⟨c_38, h⟩ := o_chk h
        obtain ⟨σ_39, eσ_39, h⟩ := o_lt h
        refine wtM_33 C eσ_39 c_38 dX11_land_164 165 rfl ?_
        obtain ⟨x3_40, ex3_40, h⟩ := o_lt h
        refine g_iinc C (lv' := [(3, .int x3_40), (0, .ref (ad 0)), (1, .int x1), (2, .int x2)]) ex3_40 dX11_land_165 3 rfl (by decide) (by decide) rfl 168 rfl ?_
        refine g_goto C 143 dX11_land_168 (by decide) ?_
        exact g_sub C [1, 2, 3, 0] rfl (ih x1 x2 x3_40 σ_39 h)
set_option maxHeartbeats 4000000 in
set_option maxRecDepth 100000 in
theorem kX11_land_L90 (C : Ctx p l e (rmL 1) s m args below meth c D (tyz cI cJ cB cZ) (wM ad cI cJ cB cZ) A cX11_land 4 1 RX11) (hr : meth.sig.returnType = some .int) {res : Int32 × ST}   : ∀ (n : Nat) (x1 : Int32) (x2 : Int32) (σ : ST), fX11_land_L90 n x1 x2 σ = some res → G p l e (rmL 1) s m args below meth c (MQ below (Qi D (tyz cI cJ cB cZ) (wM ad cI cJ cB cZ) A res) args s 0 0 A) D (wM ad cI cJ cB cZ) A 4 σ 90 [(0, .ref (ad 0)), (1, .int x1), (2, .int x2)] [] := by
  intro n
  induction n with
  | zero => intro x1 x2 σ h; have h : none = some res := h; cases h
  | succ n ih =>
    intro x1 x2 σ h
    rw [fX11_land_L90] at h
    refine g_iload_n C dX11_land_90 rfl 2 rfl 91 rfl ?_
    refine g_aload_n C dX11_land_91 rfl 0 rfl 92 rfl ?_
    refine wgX11_40_0 C dX11_land_92 95 rfl ?_
    refine g_aload_n C dX11_land_95 rfl 0 rfl 96 rfl ?_
    refine wgX11_234_0 C dX11_land_96 99 rfl ?_
    obtain ⟨c_24, h⟩ := o_chk h
    refine wlM_8 C c_24 dX11_land_99 100 rfl ?_
    refine g_icmp_ge C 177 dX11_land_100 (by decide) 103 rfl (fun c_25 => ?_) (fun c_25 => ?_)
    · have h := o_pos h c_25
      refine g_aload_n C dX11_land_177 rfl 0 rfl 178 rfl ?_
      refine wgX11_89_0 C dX11_land_178 181 rfl ?_
      refine g_iload_n C dX11_land_181 rfl 1 rfl 182 rfl ?_
      obtain ⟨c_26, h⟩ := o_chk h
      refine wlM_24 C c_26 dX11_land_182 183 rfl ?_
      exact g_iret C hr dX11_land_183 h
    · have h := o_neg h c_25
      refine g_aload_n C dX11_land_103 rfl 0 rfl 104 rfl ?_
      refine wgX11_71_0 C dX11_land_104 107 rfl ?_
      refine g_bipush C (v := 7) dX11_land_107 (by decide) 109 rfl ?_
      refine g_aload_n C dX11_land_109 rfl 0 rfl 110 rfl ?_
      refine wgX11_234_0 C dX11_land_110 113 rfl ?_
      refine g_imul C dX11_land_113 114 rfl ?_
      refine g_iload_n C dX11_land_114 rfl 2 rfl 115 rfl ?_
      refine g_iadd C dX11_land_115 116 rfl ?_
      obtain ⟨c_27, h⟩ := o_chk h
      refine wlM_18 C c_27 dX11_land_116 117 rfl ?_
      refine g_iload_n C dX11_land_117 rfl 1 rfl 118 rfl ?_
      refine g_ishr C dX11_land_118 119 rfl ?_
      refine g_iconst C (v := 1) dX11_land_119 (by decide) 120 rfl ?_
      refine g_iand C dX11_land_120 121 rfl ?_
      refine g_if_ne C 127 dX11_land_121 (by decide) 124 rfl (fun c_28 => ?_) (fun c_28 => ?_)
      · have h := o_neg h c_28
        refine g_aload_n C dX11_land_127 rfl 0 rfl 128 rfl ?_
        refine wgX11_122_0 C dX11_land_128 131 rfl ?_
        refine g_iload_n C dX11_land_131 rfl 2 rfl 132 rfl ?_
        refine g_iconst C (v := -1) dX11_land_132 (by decide) 133 rfl ?_
        obtain ⟨c_29, h⟩ := o_chk h
        obtain ⟨σ_30, eσ_30, h⟩ := o_lt h
        refine wtM_35 C eσ_30 c_29 dX11_land_133 134 rfl ?_
        refine g_aload_n C dX11_land_134 rfl 0 rfl 135 rfl ?_
        refine wgX11_128_0 C dX11_land_135 138 rfl ?_
        refine g_iload_n C dX11_land_138 rfl 2 rfl 139 rfl ?_
        refine g_iconst C (v := 0) dX11_land_139 (by decide) 140 rfl ?_
        obtain ⟨c_31, h⟩ := o_chk h
        obtain ⟨σ_32, eσ_32, h⟩ := o_lt h
        refine wtM_37 C eσ_32 c_31 dX11_land_140 141 rfl ?_
        refine g_iconst C (v := 0) dX11_land_141 (by decide) 142 rfl ?_
        obtain ⟨x3_33, ex3_33, h⟩ := o_lt h
        refine g_istore_n C (lv' := [(3, .int x3_33), (0, .ref (ad 0)), (1, .int x1), (2, .int x2)]) ex3_33 dX11_land_142 rfl (by decide) rfl 143 rfl ?_
        exact g_sub C [1, 2, 3, 0] rfl (kX11_land_L143 C hr (fun x1_41 x2_42 σ_43 h => by
            obtain ⟨x2_44, ex2_44, h⟩ := o_lt h
            refine g_iinc C (lv' := [(2, .int x2_44), (0, .ref (ad 0)), (1, .int x1_41)]) ex2_44 dX11_land_171 2 rfl (by decide) (by decide) rfl 174 rfl ?_
            refine g_goto C 90 dX11_land_174 (by decide) ?_
            exact g_sub C [1, 2, 0] rfl (ih x1_41 x2_44 σ_43 h)) n x1 x2 x3_33 σ_32 h)
      · have h := o_pos h c_28
        refine g_goto C 171 dX11_land_124 (by decide) ?_
        obtain ⟨x2_45, ex2_45, h⟩ := o_lt h
        refine g_iinc C (lv' := [(2, .int x2_45), (0, .ref (ad 0)), (1, .int x1)]) ex2_45 dX11_land_171 2 rfl (by decide) (by decide) rfl 174 rfl ?_
        refine g_goto C 90 dX11_land_174 (by decide) ?_
        exact g_sub C [1, 2, 0] rfl (ih x1 x2_45 σ h)
set_option maxHeartbeats 4000000 in
set_option maxRecDepth 100000 in
theorem kX11_land {l : Launch} {D : va_G} {ad : Nat → Nat} {cI cJ cB cZ : ClassId}  {n : Nat} {x1 : Int32} {σ : ST} {res : Int32 × ST} (h : fX11_land n x1 σ = some res) : CMi l D (tyz cI cJ cB cZ) (wM ad cI cJ cB cZ) 1 yX11_land cX11_land 4 (some .int) [.ref (ad 0), .int x1] σ res := by
  refine cmi_body (own := RX11) (lv := [(0, .ref (ad 0)), (1, .int x1)]) (by decide) rfl (wM_addr _ _ _ _ _) (Nat.le_of_ble_eq_true rfl) rfl (fun p e s m args below meth c A C hr => ?_)
  unfold fX11_land at h
  refine g_iload_n C dX11_land_0 rfl 1 rfl 1 rfl ?_
  obtain ⟨q_1, hq_1, h⟩ := o_bind h
  refine wcX11_292_M C (kX11_isTable hq_1) (by decide) (Nat.le_of_ble_eq_true rfl) dX11_land_1 4 rfl ?_
  refine g_if_ne C 9 dX11_land_4 (by decide) 7 rfl (fun c_2 => ?_) (fun c_2 => ?_)
  · have h := o_neg h c_2
    refine g_aload_n C dX11_land_9 rfl 0 rfl 10 rfl ?_
    refine wgX11_101_0 C dX11_land_10 13 rfl ?_
    refine g_iload_n C dX11_land_13 rfl 1 rfl 14 rfl ?_
    refine g_aload_n C dX11_land_14 rfl 0 rfl 15 rfl ?_
    refine wgX11_92_0 C dX11_land_15 18 rfl ?_
    refine g_iload_n C dX11_land_18 rfl 1 rfl 19 rfl ?_
    obtain ⟨c_3, h⟩ := o_chk h
    refine wlM_25 C c_3 dX11_land_19 20 rfl ?_
    obtain ⟨c_4, h⟩ := o_chk h
    obtain ⟨σ_5, eσ_5, h⟩ := o_lt h
    refine wtM_28 C eσ_5 c_4 dX11_land_20 21 rfl ?_
    refine g_bipush C (v := 40) dX11_land_21 (by decide) 23 rfl ?_
    refine g_iload_n C dX11_land_23 rfl 1 rfl 24 rfl ?_
    refine g_imul C dX11_land_24 25 rfl ?_
    obtain ⟨x2_6, ex2_6, h⟩ := o_lt h
    refine g_istore_n C (lv' := [(2, .int x2_6), (0, .ref (ad 0)), (1, .int x1)]) ex2_6 dX11_land_25 rfl (by decide) rfl 26 rfl ?_
    exact g_sub C [1, 2, 0] rfl (kX11_land_L26 C hr (fun x1_16 σ_17 h => by
        refine g_aload_n C dX11_land_71 rfl 0 rfl 72 rfl ?_
        refine wgX11_92_0 C dX11_land_72 75 rfl ?_
        refine g_iload_n C dX11_land_75 rfl 1 rfl 76 rfl ?_
        refine g_iconst C (v := 0) dX11_land_76 (by decide) 77 rfl ?_
        obtain ⟨c_18, h⟩ := o_chk h
        obtain ⟨σ_19, eσ_19, h⟩ := o_lt h
        refine wtM_25 C eσ_19 c_18 dX11_land_77 78 rfl ?_
        refine g_aload_n C dX11_land_78 rfl 0 rfl 79 rfl ?_
        refine wgX11_89_0 C dX11_land_79 82 rfl ?_
        refine g_iload_n C dX11_land_82 rfl 1 rfl 83 rfl ?_
        refine g_dup2 C dX11_land_83 rfl rfl 84 rfl ?_
        obtain ⟨c_20, h⟩ := o_chk h
        refine wlM_24 C c_20 dX11_land_84 85 rfl ?_
        refine g_iconst C (v := 1) dX11_land_85 (by decide) 86 rfl ?_
        refine g_iadd C dX11_land_86 87 rfl ?_
        obtain ⟨c_21, h⟩ := o_chk h
        obtain ⟨σ_22, eσ_22, h⟩ := o_lt h
        refine wtM_24 C eσ_22 c_21 dX11_land_87 88 rfl ?_
        refine g_iconst C (v := 0) dX11_land_88 (by decide) 89 rfl ?_
        obtain ⟨x2_23, ex2_23, h⟩ := o_lt h
        refine g_istore_n C (lv' := [(2, .int x2_23), (0, .ref (ad 0)), (1, .int x1_16)]) ex2_23 dX11_land_89 rfl (by decide) rfl 90 rfl ?_
        exact g_sub C [1, 2, 0] rfl (kX11_land_L90 C hr  n x1_16 x2_23 σ_22 h)) n x1 x2_6 σ_5 h)
  · have h := o_pos h c_2
    refine g_iconst C (v := -1) dX11_land_7 (by decide) 8 rfl ?_
    exact g_iret C hr dX11_land_8 h
end WK
/-! X11_reader public int reader(int); -/
def fX11_reader (x1 : Int32) (σ : ST) : Option (Int32 × ST) :=
  (if (gI σ 17) = ((6 : Int32)) then (some ((-1 : Int32), σ)) else (if x1 < 0 then (some ((-1 : Int32), σ)) else (if x1 ≤ ((255 : Int32)) then (if ix (gI σ 17) 6 then (lt (stA σ 31 (gI σ 17) x1) (fun σ_5 => (if ix (gI σ_5 17) 6 then (lt (stA σ_5 32 (gI σ_5 17) (nz ((0 : Int32)))) (fun σ_7 => (lt (sI σ_7 17 ((gI σ_7 17) + ((1 : Int32)))) (fun σ_8 => (some ((gI σ_8 17) - ((1 : Int32)), σ_8)))))) else none))) else none) else (some ((-1 : Int32), σ)))))
section WK
variable {p : Program} {l : Launch} {e : Env} {R : Room} {s : State} {m : MethodId} {args : Array Value} {below : List Frame} {meth : Method} {c : Code} {Q : State → Prop}
variable {D : va_G} {ad : Nat → Nat} {cI cJ cB cZ : ClassId} {A : Nat → Prop} {cc : ByteArray} {nL lev : Nat}
variable {σ : ST} {pc : Nat} {lv : List (Nat × Value)} {st : List Value}
set_option maxHeartbeats 4000000 in
set_option maxRecDepth 100000 in
theorem kX11_reader {l : Launch} {D : va_G} {ad : Nat → Nat} {cI cJ cB cZ : ClassId}  {x1 : Int32} {σ : ST} {res : Int32 × ST} (h : fX11_reader x1 σ = some res) : CMi l D (tyz cI cJ cB cZ) (wM ad cI cJ cB cZ) 0 yX11_reader cX11_reader 2 (some .int) [.ref (ad 0), .int x1] σ res := by
  refine cmi_body (own := RX11) (lv := [(0, .ref (ad 0)), (1, .int x1)]) (by decide) rfl (wM_addr _ _ _ _ _) (Nat.le_of_ble_eq_true rfl) rfl (fun p e s m args below meth c A C hr => ?_)
  unfold fX11_reader at h
  refine g_aload_n C dX11_reader_0 rfl 0 rfl 1 rfl ?_
  refine wgX11_289_0 C dX11_reader_1 4 rfl ?_
  refine g_bipush C (v := 6) dX11_reader_4 (by decide) 6 rfl ?_
  refine g_icmp_eq C 20 dX11_reader_6 (by decide) 9 rfl (fun c_1 => ?_) (fun c_1 => ?_)
  · have h := o_pos h c_1
    refine g_iconst C (v := -1) dX11_reader_20 (by decide) 21 rfl ?_
    exact g_iret C hr dX11_reader_21 h
  · have h := o_neg h c_1
    refine g_iload_n C dX11_reader_9 rfl 1 rfl 10 rfl ?_
    refine g_if_lt C 20 dX11_reader_10 (by decide) 13 rfl (fun c_2 => ?_) (fun c_2 => ?_)
    · have h := o_pos h c_2
      refine g_iconst C (v := -1) dX11_reader_20 (by decide) 21 rfl ?_
      exact g_iret C hr dX11_reader_21 h
    · have h := o_neg h c_2
      refine g_iload_n C dX11_reader_13 rfl 1 rfl 14 rfl ?_
      refine g_sipush C (v := 255) dX11_reader_14 (by decide) 17 rfl ?_
      refine g_icmp_le C 22 dX11_reader_17 (by decide) 20 rfl (fun c_3 => ?_) (fun c_3 => ?_)
      · have h := o_pos h c_3
        refine g_aload_n C dX11_reader_22 rfl 0 rfl 23 rfl ?_
        refine wgX11_110_0 C dX11_reader_23 26 rfl ?_
        refine g_aload_n C dX11_reader_26 rfl 0 rfl 27 rfl ?_
        refine wgX11_289_0 C dX11_reader_27 30 rfl ?_
        refine g_iload_n C dX11_reader_30 rfl 1 rfl 31 rfl ?_
        obtain ⟨c_4, h⟩ := o_chk h
        obtain ⟨σ_5, eσ_5, h⟩ := o_lt h
        refine wtM_31 C eσ_5 c_4 dX11_reader_31 32 rfl ?_
        refine g_aload_n C dX11_reader_32 rfl 0 rfl 33 rfl ?_
        refine wgX11_113_0 C dX11_reader_33 36 rfl ?_
        refine g_aload_n C dX11_reader_36 rfl 0 rfl 37 rfl ?_
        refine wgX11_289_0 C dX11_reader_37 40 rfl ?_
        refine g_iconst C (v := 0) dX11_reader_40 (by decide) 41 rfl ?_
        obtain ⟨c_6, h⟩ := o_chk h
        obtain ⟨σ_7, eσ_7, h⟩ := o_lt h
        refine wtM_32 C eσ_7 c_6 dX11_reader_41 42 rfl ?_
        refine g_aload_n C dX11_reader_42 rfl 0 rfl 43 rfl ?_
        refine g_dup C dX11_reader_43 rfl 44 rfl ?_
        refine wgX11_289_0 C dX11_reader_44 47 rfl ?_
        refine g_iconst C (v := 1) dX11_reader_47 (by decide) 48 rfl ?_
        refine g_iadd C dX11_reader_48 49 rfl ?_
        obtain ⟨σ_8, eσ_8, h⟩ := o_lt h
        refine wpX11_289_0 C eσ_8 dX11_reader_49 52 rfl ?_
        refine g_aload_n C dX11_reader_52 rfl 0 rfl 53 rfl ?_
        refine wgX11_289_0 C dX11_reader_53 56 rfl ?_
        refine g_iconst C (v := 1) dX11_reader_56 (by decide) 57 rfl ?_
        refine g_isub C dX11_reader_57 58 rfl ?_
        exact g_iret C hr dX11_reader_58 h
      · have h := o_neg h c_3
        refine g_iconst C (v := -1) dX11_reader_20 (by decide) 21 rfl ?_
        exact g_iret C hr dX11_reader_21 h
end WK
/-! X11_isReader private boolean isReader(int); -/
def fX11_isReader (x1 : Int32) (σ : ST) : Option (Int32 × ST) :=
  (if x1 < 0 then (some ((0 : Int32), σ)) else (if (gI σ 17) ≤ x1 then (some ((0 : Int32), σ)) else (some ((1 : Int32), σ))))
section WK
variable {p : Program} {l : Launch} {e : Env} {R : Room} {s : State} {m : MethodId} {args : Array Value} {below : List Frame} {meth : Method} {c : Code} {Q : State → Prop}
variable {D : va_G} {ad : Nat → Nat} {cI cJ cB cZ : ClassId} {A : Nat → Prop} {cc : ByteArray} {nL lev : Nat}
variable {σ : ST} {pc : Nat} {lv : List (Nat × Value)} {st : List Value}
set_option maxHeartbeats 4000000 in
set_option maxRecDepth 100000 in
theorem kX11_isReader {l : Launch} {D : va_G} {ad : Nat → Nat} {cI cJ cB cZ : ClassId}  {x1 : Int32} {σ : ST} {res : Int32 × ST} (h : fX11_isReader x1 σ = some res) : CMi l D (tyz cI cJ cB cZ) (wM ad cI cJ cB cZ) 0 yX11_isReader cX11_isReader 2 (some .boolean) [.ref (ad 0), .int x1] σ res := by
  refine cmi_body (own := RX11) (lv := [(0, .ref (ad 0)), (1, .int x1)]) (by decide) rfl (wM_addr _ _ _ _ _) (Nat.le_of_ble_eq_true rfl) rfl (fun p e s m args below meth c A C hr => ?_)
  unfold fX11_isReader at h
  refine g_iload_n C dX11_isReader_0 rfl 1 rfl 1 rfl ?_
  refine g_if_lt C 16 dX11_isReader_1 (by decide) 4 rfl (fun c_1 => ?_) (fun c_1 => ?_)
  · have h := o_pos h c_1
    refine g_iconst C (v := 0) dX11_isReader_16 (by decide) 17 rfl ?_
    exact g_zret C hr (by decide) dX11_isReader_17 h
  · have h := o_neg h c_1
    refine g_iload_n C dX11_isReader_4 rfl 1 rfl 5 rfl ?_
    refine g_aload_n C dX11_isReader_5 rfl 0 rfl 6 rfl ?_
    refine wgX11_289_0 C dX11_isReader_6 9 rfl ?_
    refine g_icmp_ge C 16 dX11_isReader_9 (by decide) 12 rfl (fun c_2 => ?_) (fun c_2 => ?_)
    · have h := o_pos h c_2
      refine g_iconst C (v := 0) dX11_isReader_16 (by decide) 17 rfl ?_
      exact g_zret C hr (by decide) dX11_isReader_17 h
    · have h := o_neg h c_2
      refine g_iconst C (v := 1) dX11_isReader_12 (by decide) 13 rfl ?_
      refine g_goto C 17 dX11_isReader_13 (by decide) ?_
      exact g_zret C hr (by decide) dX11_isReader_17 h
end WK
/-! X11_rights public boolean rights(int, int); -/
def fX11_rights (x1 : Int32) (x2 : Int32) (σ : ST) : Option (Int32 × ST) :=
  (Option.bind (fX11_isReader x1 σ) (fun q_1 => (if q_1.1 = 0 then (some ((0 : Int32), q_1.2)) else (if x2 < 0 then (some ((0 : Int32), q_1.2)) else (if x2 ≤ ((255 : Int32)) then (if ix x1 6 then (lt (stA q_1.2 31 x1 x2) (fun σ_6 => (some ((1 : Int32), σ_6)))) else none) else (some ((0 : Int32), q_1.2)))))))
section WK
variable {p : Program} {l : Launch} {e : Env} {R : Room} {s : State} {m : MethodId} {args : Array Value} {below : List Frame} {meth : Method} {c : Code} {Q : State → Prop}
variable {D : va_G} {ad : Nat → Nat} {cI cJ cB cZ : ClassId} {A : Nat → Prop} {cc : ByteArray} {nL lev : Nat}
variable {σ : ST} {pc : Nat} {lv : List (Nat × Value)} {st : List Value}
set_option maxHeartbeats 4000000 in
set_option maxRecDepth 100000 in
theorem kX11_rights {l : Launch} {D : va_G} {ad : Nat → Nat} {cI cJ cB cZ : ClassId}  {x1 : Int32} {x2 : Int32} {σ : ST} {res : Int32 × ST} (h : fX11_rights x1 x2 σ = some res) : CMi l D (tyz cI cJ cB cZ) (wM ad cI cJ cB cZ) 1 yX11_rights cX11_rights 3 (some .boolean) [.ref (ad 0), .int x1, .int x2] σ res := by
  refine cmi_body (own := RX11) (lv := [(0, .ref (ad 0)), (1, .int x1), (2, .int x2)]) (by decide) rfl (wM_addr _ _ _ _ _) (Nat.le_of_ble_eq_true rfl) rfl (fun p e s m args below meth c A C hr => ?_)
  unfold fX11_rights at h
  refine g_aload_n C dX11_rights_0 rfl 0 rfl 1 rfl ?_
  refine g_iload_n C dX11_rights_1 rfl 1 rfl 2 rfl ?_
  obtain ⟨q_1, hq_1, h⟩ := o_bind h
  refine wcX11_295_M_0 C (kX11_isReader hq_1) (by decide) (Nat.le_of_ble_eq_true rfl) dX11_rights_2 5 rfl ?_
  refine g_if_eq C 19 dX11_rights_5 (by decide) 8 rfl (fun c_2 => ?_) (fun c_2 => ?_)
  · have h := o_pos h c_2
    refine g_iconst C (v := 0) dX11_rights_19 (by decide) 20 rfl ?_
    exact g_zret C hr (by decide) dX11_rights_20 h
  · have h := o_neg h c_2
    refine g_iload_n C dX11_rights_8 rfl 2 rfl 9 rfl ?_
    refine g_if_lt C 19 dX11_rights_9 (by decide) 12 rfl (fun c_3 => ?_) (fun c_3 => ?_)
    · have h := o_pos h c_3
      refine g_iconst C (v := 0) dX11_rights_19 (by decide) 20 rfl ?_
      exact g_zret C hr (by decide) dX11_rights_20 h
    · have h := o_neg h c_3
      refine g_iload_n C dX11_rights_12 rfl 2 rfl 13 rfl ?_
      refine g_sipush C (v := 255) dX11_rights_13 (by decide) 16 rfl ?_
      refine g_icmp_le C 21 dX11_rights_16 (by decide) 19 rfl (fun c_4 => ?_) (fun c_4 => ?_)
      · have h := o_pos h c_4
        refine g_aload_n C dX11_rights_21 rfl 0 rfl 22 rfl ?_
        refine wgX11_110_0 C dX11_rights_22 25 rfl ?_
        refine g_iload_n C dX11_rights_25 rfl 1 rfl 26 rfl ?_
        refine g_iload_n C dX11_rights_26 rfl 2 rfl 27 rfl ?_
        obtain ⟨c_5, h⟩ := o_chk h
        obtain ⟨σ_6, eσ_6, h⟩ := o_lt h
        refine wtM_31 C eσ_6 c_5 dX11_rights_27 28 rfl ?_
        refine g_iconst C (v := 1) dX11_rights_28 (by decide) 29 rfl ?_
        exact g_zret C hr (by decide) dX11_rights_29 h
      · have h := o_neg h c_4
        refine g_iconst C (v := 0) dX11_rights_19 (by decide) 20 rfl ?_
        exact g_zret C hr (by decide) dX11_rights_20 h
end WK
/-! X11_sends private void sends(int, int); -/
def fX11_sends_L36 (k112 : Int32 → Int32 → Int32 → Int32 → ST → Option (ST)) : Nat → Int32 → Int32 → Int32 → Int32 → Int32 → ST → Option (ST)
  | 0, _, _, _, _, _, _ => none
  | n + 1, x1, x2, x3, x4, x5, σ => (if ((8 : Int32)) ≤ x5 then (k112 x1 x2 x3 x4 σ) else (if ix x2 6 then (lt (fun (x1_10 : Int32) (x2_11 : Int32) (x3_12 : Int32) (x4_13 : Int32) (x5_14 : Int32) (v_15 : Int64) (σ_16 : ST) => (lt (v_15) (fun x6_17 => (if x4_13 = 0 then (if ix ((((8 : Int32)) * x3_12) + x5_14) 336 then (if (lg_cmp x6_17 (ldB σ_16 42 ((((8 : Int32)) * x3_12) + x5_14))) = 0 then (lt ((0 : Int32)) (fun x4_23 => (lt (x5_14 + 1) (fun x5_24 => (fX11_sends_L36 k112 n x1_10 x2_11 x3_12 x4_23 x5_24 σ_16))))) else (lt ((1 : Int32)) (fun x4_25 => (lt (x5_14 + 1) (fun x5_26 => (fX11_sends_L36 k112 n x1_10 x2_11 x3_12 x4_25 x5_26 σ_16)))))) else none) else (lt ((1 : Int32)) (fun x4_19 => (lt (x5_14 + 1) (fun x5_20 => (fX11_sends_L36 k112 n x1_10 x2_11 x3_12 x4_19 x5_20 σ_16))))))))) (fun j74 => (if (((ldA σ 31 x2) >>> (x5 &&& 31)) &&& ((1 : Int32))) = ((1 : Int32)) then (if ix ((((8 : Int32)) * x1) + x5) 56 then (j74 x1 x2 x3 x4 x5 (ldB σ 38 ((((8 : Int32)) * x1) + x5)) σ) else none) else (j74 x1 x2 x3 x4 x5 ((0 : Int64)) σ)))) else none))
def fX11_sends_L121 (k177 : Int32 → ST → Option (ST)) : Nat → Int32 → Int32 → Int32 → Int32 → ST → Option (ST)
  | 0, _, _, _, _, _ => none
  | n + 1, x1, x2, x3, x5, σ => (if ((8 : Int32)) ≤ x5 then (k177 x3 σ) else (if ix x2 6 then (if (((ldA σ 31 x2) >>> (x5 &&& 31)) &&& ((1 : Int32))) = ((1 : Int32)) then (if ix ((((8 : Int32)) * x1) + x5) 56 then (if ix ((((8 : Int32)) * x3) + x5) 336 then (lt (stB σ 42 ((((8 : Int32)) * x3) + x5) (ldB σ 38 ((((8 : Int32)) * x1) + x5))) (fun σ_44 => (lt (x5 + 1) (fun x5_45 => (fX11_sends_L121 k177 n x1 x2 x3 x5_45 σ_44))))) else none) else none) else (if ix ((((8 : Int32)) * x3) + x5) 336 then (lt (stB σ 42 ((((8 : Int32)) * x3) + x5) ((0 : Int64))) (fun σ_40 => (lt (x5 + 1) (fun x5_41 => (fX11_sends_L121 k177 n x1 x2 x3 x5_41 σ_40))))) else none)) else none))
def fX11_sends (n : Nat) (x1 : Int32) (x2 : Int32) (σ : ST) : Option (ST) :=
  (lt ((((6 : Int32)) * x1) + x2) (fun x3_1 => (if ix x3_1 42 then (if (ldA σ 39 x3_1) = 0 then (some σ) else (if ix x3_1 42 then (if (ldA σ 40 x3_1) = 0 then (lt ((1 : Int32)) (fun x4_53 => (lt ((0 : Int32)) (fun x5_54 => (fX11_sends_L36 (fun (x1_55 : Int32) (x2_56 : Int32) (x3_57 : Int32) (x4_58 : Int32) (σ_59 : ST) => (if x4_58 = 0 then (some σ_59) else (lt ((0 : Int32)) (fun x5_61 => (fX11_sends_L121 (fun (x3_62 : Int32) (σ_63 : ST) => (if ix x3_62 42 then (lt (stA σ_63 40 x3_62 (nz ((1 : Int32)))) (fun σ_65 => (if ix x3_62 42 then (if ix x3_62 42 then (lt (stA σ_65 41 x3_62 ((ldA σ_65 41 x3_62) + ((1 : Int32)))) (fun σ_68 => (some σ_68))) else none) else none))) else none)) n x1_55 x2_56 x3_57 x5_61 σ_59))))) n x1 x2 x3_1 x4_53 x5_54 σ))))) else (lt ((0 : Int32)) (fun x4_6 => (lt ((0 : Int32)) (fun x5_7 => (fX11_sends_L36 (fun (x1_29 : Int32) (x2_30 : Int32) (x3_31 : Int32) (x4_32 : Int32) (σ_33 : ST) => (if x4_32 = 0 then (some σ_33) else (lt ((0 : Int32)) (fun x5_35 => (fX11_sends_L121 (fun (x3_46 : Int32) (σ_47 : ST) => (if ix x3_46 42 then (lt (stA σ_47 40 x3_46 (nz ((1 : Int32)))) (fun σ_49 => (if ix x3_46 42 then (if ix x3_46 42 then (lt (stA σ_49 41 x3_46 ((ldA σ_49 41 x3_46) + ((1 : Int32)))) (fun σ_52 => (some σ_52))) else none) else none))) else none)) n x1_29 x2_30 x3_31 x5_35 σ_33))))) n x1 x2 x3_1 x4_6 x5_7 σ)))))) else none)) else none)))
section WK
variable {p : Program} {l : Launch} {e : Env} {R : Room} {s : State} {m : MethodId} {args : Array Value} {below : List Frame} {meth : Method} {c : Code} {Q : State → Prop}
variable {D : va_G} {ad : Nat → Nat} {cI cJ cB cZ : ClassId} {A : Nat → Prop} {cc : ByteArray} {nL lev : Nat}
variable {σ : ST} {pc : Nat} {lv : List (Nat × Value)} {st : List Value}
set_option maxHeartbeats 4000000 in
set_option maxRecDepth 100000 in
theorem kX11_sends_L36 (C : Ctx p l e (rmL 0) s m args below meth c D (tyz cI cJ cB cZ) (wM ad cI cJ cB cZ) A cX11_sends 8 0 RX11) (hr : meth.sig.returnType = none) {res : ST} {k112 : Int32 → Int32 → Int32 → Int32 → ST → Option (ST)} (hk112 : ∀ (x1 : Int32) (x2 : Int32) (x3 : Int32) (x4 : Int32) (σ : ST), k112 x1 x2 x3 x4 σ = some res → G p l e (rmL 0) s m args below meth c (MQ below (Qv D (tyz cI cJ cB cZ) (wM ad cI cJ cB cZ) A res) args s 0 0 A) D (wM ad cI cJ cB cZ) A 8 σ 112 [(0, .ref (ad 0)), (1, .int x1), (2, .int x2), (3, .int x3), (4, .int x4)] []) : ∀ (n : Nat) (x1 : Int32) (x2 : Int32) (x3 : Int32) (x4 : Int32) (x5 : Int32) (σ : ST), fX11_sends_L36 k112 n x1 x2 x3 x4 x5 σ = some res → G p l e (rmL 0) s m args below meth c (MQ below (Qv D (tyz cI cJ cB cZ) (wM ad cI cJ cB cZ) A res) args s 0 0 A) D (wM ad cI cJ cB cZ) A 8 σ 36 [(0, .ref (ad 0)), (1, .int x1), (2, .int x2), (3, .int x3), (4, .int x4), (5, .int x5)] [] := by
  intro n
  induction n with
  | zero => intro x1 x2 x3 x4 x5 σ h; have h : none = some res := h; cases h
  | succ n ih =>
    intro x1 x2 x3 x4 x5 σ h
    rw [fX11_sends_L36] at h
    refine g_iload C dX11_sends_36 5 rfl 38 rfl ?_
    refine g_bipush C (v := 8) dX11_sends_38 (by decide) 40 rfl ?_
    refine g_icmp_ge C 112 dX11_sends_40 (by decide) 43 rfl (fun c_8 => ?_) (fun c_8 => ?_)
    · have h := o_pos h c_8
      exact g_sub C [0, 1, 2, 3, 4] rfl (hk112 x1 x2 x3 x4 σ h)
    · have h := o_neg h c_8
      refine g_aload_n C dX11_sends_43 rfl 0 rfl 44 rfl ?_
      refine wgX11_110_0 C dX11_sends_44 47 rfl ?_
      refine g_iload_n C dX11_sends_47 rfl 2 rfl 48 rfl ?_
      obtain ⟨c_9, h⟩ := o_chk h
      refine wlM_31 C c_9 dX11_sends_48 49 rfl ?_
      refine g_iload C dX11_sends_49 5 rfl 51 rfl ?_
      refine g_ishr C dX11_sends_51 52 rfl ?_
      refine g_iconst C (v := 1) dX11_sends_52 (by decide) 53 rfl ?_
      refine g_iand C dX11_sends_53 54 rfl ?_
      refine g_iconst C (v := 1) dX11_sends_54 (by decide) 55 rfl ?_
      obtain ⟨j74, ej74, h⟩ := o_lt h
      have hj74 : ∀ (x1_10 : Int32) (x2_11 : Int32) (x3_12 : Int32) (x4_13 : Int32) (x5_14 : Int32) (v_15 : Int64) (σ_16 : ST), j74 x1_10 x2_11 x3_12 x4_13 x5_14 v_15 σ_16 = some res → G p l e (rmL 0) s m args below meth c (MQ below (Qv D (tyz cI cJ cB cZ) (wM ad cI cJ cB cZ) A res) args s 0 0 A) D (wM ad cI cJ cB cZ) A 8 σ_16 74 [(0, .ref (ad 0)), (1, .int x1_10), (2, .int x2_11), (3, .int x3_12), (4, .int x4_13), (5, .int x5_14)] [.long v_15] := by
        intro x1_10 x2_11 x3_12 x4_13 x5_14 v_15 σ_16 h
        rw [ej74] at h
        obtain ⟨x6_17, ex6_17, h⟩ := o_lt h
        refine g_lstore C (lv' := [(6, .long x6_17), (0, .ref (ad 0)), (1, .int x1_10), (2, .int x2_11), (3, .int x3_12), (4, .int x4_13), (5, .int x5_14)]) ex6_17 dX11_sends_74 (by decide) rfl 76 rfl ?_
        refine g_iload C dX11_sends_76 5 rfl 78 rfl ?_
        refine g_if_ne C 99 dX11_sends_78 (by decide) 81 rfl (fun c_18 => ?_) (fun c_18 => ?_)
        · have h := o_neg h c_18
          refine g_iconst C (v := 1) dX11_sends_99 (by decide) 100 rfl ?_
          refine g_goto C 104 dX11_sends_100 (by decide) ?_
          obtain ⟨x4_19, ex4_19, h⟩ := o_lt h
          refine g_istore C (lv' := [(4, .int x4_19), (6, .long x6_17), (0, .ref (ad 0)), (1, .int x1_10), (2, .int x2_11), (3, .int x3_12), (5, .int x5_14)]) ex4_19 dX11_sends_104 (by decide) rfl 106 rfl ?_
          obtain ⟨x5_20, ex5_20, h⟩ := o_lt h
          refine g_iinc C (lv' := [(5, .int x5_20), (4, .int x4_19), (6, .long x6_17), (0, .ref (ad 0)), (1, .int x1_10), (2, .int x2_11), (3, .int x3_12)]) ex5_20 dX11_sends_106 6 rfl (by decide) (by decide) rfl 109 rfl ?_
          refine g_goto C 36 dX11_sends_109 (by decide) ?_
          exact g_sub C [3, 4, 5, 6, 1, 0] rfl (ih x1_10 x2_11 x3_12 x4_19 x5_20 σ_16 h)
        · have h := o_pos h c_18
          refine g_lload C dX11_sends_81 0 rfl 83 rfl ?_
          refine g_aload_n C dX11_sends_83 rfl 1 rfl 84 rfl ?_
          refine wgX11_143_0 C dX11_sends_84 87 rfl ?_
          refine g_bipush C (v := 8) dX11_sends_87 (by decide) 89 rfl ?_
          refine g_iload_n C dX11_sends_89 rfl 4 rfl 90 rfl ?_
          refine g_imul C dX11_sends_90 91 rfl ?_
          refine g_iload C dX11_sends_91 6 rfl 93 rfl ?_
          refine g_iadd C dX11_sends_93 94 rfl ?_
          obtain ⟨c_21, h⟩ := o_chk h
          refine wlM_42 C c_21 dX11_sends_94 95 rfl ?_
          refine g_lcmp C dX11_sends_95 96 rfl ?_
          refine g_if_eq C 103 dX11_sends_96 (by decide) 99 rfl (fun c_22 => ?_) (fun c_22 => ?_)
          · have h := o_pos h c_22
            refine g_iconst C (v := 0) dX11_sends_103 (by decide) 104 rfl ?_
            obtain ⟨x4_23, ex4_23, h⟩ := o_lt h
            refine g_istore C (lv' := [(4, .int x4_23), (6, .long x6_17), (0, .ref (ad 0)), (1, .int x1_10), (2, .int x2_11), (3, .int x3_12), (5, .int x5_14)]) ex4_23 dX11_sends_104 (by decide) rfl 106 rfl ?_
            obtain ⟨x5_24, ex5_24, h⟩ := o_lt h
            refine g_iinc C (lv' := [(5, .int x5_24), (4, .int x4_23), (6, .long x6_17), (0, .ref (ad 0)), (1, .int x1_10), (2, .int x2_11), (3, .int x3_12)]) ex5_24 dX11_sends_106 6 rfl (by decide) (by decide) rfl 109 rfl ?_
            refine g_goto C 36 dX11_sends_109 (by decide) ?_
            exact g_sub C [3, 4, 5, 6, 1, 0] rfl (ih x1_10 x2_11 x3_12 x4_23 x5_24 σ_16 h)
          · have h := o_neg h c_22
            refine g_iconst C (v := 1) dX11_sends_99 (by decide) 100 rfl ?_
            refine g_goto C 104 dX11_sends_100 (by decide) ?_
            obtain ⟨x4_25, ex4_25, h⟩ := o_lt h
            refine g_istore C (lv' := [(4, .int x4_25), (6, .long x6_17), (0, .ref (ad 0)), (1, .int x1_10), (2, .int x2_11), (3, .int x3_12), (5, .int x5_14)]) ex4_25 dX11_sends_104 (by decide) rfl 106 rfl ?_
            obtain ⟨x5_26, ex5_26, h⟩ := o_lt h
            refine g_iinc C (lv' := [(5, .int x5_26), (4, .int x4_25), (6, .long x6_17), (0, .ref (ad 0)), (1, .int x1_10), (2, .int x2_11), (3, .int x3_12)]) ex5_26 dX11_sends_106 6 rfl (by decide) (by decide) rfl 109 rfl ?_
            refine g_goto C 36 dX11_sends_109 (by decide) ?_
            exact g_sub C [3, 4, 5, 6, 1, 0] rfl (ih x1_10 x2_11 x3_12 x4_25 x5_26 σ_16 h)
      refine g_icmp_ne C 73 dX11_sends_55 (by decide) 58 rfl (fun c_27 => ?_) (fun c_27 => ?_)
      · have h := o_neg h c_27
        refine g_lconst C (v := 0) dX11_sends_73 (by decide) 74 rfl ?_
        exact g_sub C [0, 1, 2, 3, 4, 5] rfl (hj74 x1 x2 x3 x4 x5 ((0 : Int64)) σ h)
      · have h := o_pos h c_27
        refine g_aload_n C dX11_sends_58 rfl 0 rfl 59 rfl ?_
        refine wgX11_131_0 C dX11_sends_59 62 rfl ?_
        refine g_bipush C (v := 8) dX11_sends_62 (by decide) 64 rfl ?_
        refine g_iload_n C dX11_sends_64 rfl 1 rfl 65 rfl ?_
        refine g_imul C dX11_sends_65 66 rfl ?_
        refine g_iload C dX11_sends_66 5 rfl 68 rfl ?_
        refine g_iadd C dX11_sends_68 69 rfl ?_
        obtain ⟨c_28, h⟩ := o_chk h
        refine wlM_38 C c_28 dX11_sends_69 70 rfl ?_
        refine g_goto C 74 dX11_sends_70 (by decide) ?_
        exact g_sub C [0, 1, 2, 3, 4, 5] rfl (hj74 x1 x2 x3 x4 x5 (ldB σ 38 ((((8 : Int32)) * x1) + x5)) σ h)
set_option maxHeartbeats 4000000 in
set_option maxRecDepth 100000 in
theorem kX11_sends_L121 (C : Ctx p l e (rmL 0) s m args below meth c D (tyz cI cJ cB cZ) (wM ad cI cJ cB cZ) A cX11_sends 8 0 RX11) (hr : meth.sig.returnType = none) {res : ST} {k177 : Int32 → ST → Option (ST)} (hk177 : ∀ (x3 : Int32) (σ : ST), k177 x3 σ = some res → G p l e (rmL 0) s m args below meth c (MQ below (Qv D (tyz cI cJ cB cZ) (wM ad cI cJ cB cZ) A res) args s 0 0 A) D (wM ad cI cJ cB cZ) A 8 σ 177 [(0, .ref (ad 0)), (3, .int x3)] []) : ∀ (n : Nat) (x1 : Int32) (x2 : Int32) (x3 : Int32) (x5 : Int32) (σ : ST), fX11_sends_L121 k177 n x1 x2 x3 x5 σ = some res → G p l e (rmL 0) s m args below meth c (MQ below (Qv D (tyz cI cJ cB cZ) (wM ad cI cJ cB cZ) A res) args s 0 0 A) D (wM ad cI cJ cB cZ) A 8 σ 121 [(0, .ref (ad 0)), (1, .int x1), (2, .int x2), (3, .int x3), (5, .int x5)] [] := by
  intro n
  induction n with
  | zero => intro x1 x2 x3 x5 σ h; have h : none = some res := h; cases h
  | succ n ih =>
    intro x1 x2 x3 x5 σ h
    rw [fX11_sends_L121] at h
    refine g_iload C dX11_sends_121 4 rfl 123 rfl ?_
    refine g_bipush C (v := 8) dX11_sends_123 (by decide) 125 rfl ?_
    refine g_icmp_ge C 177 dX11_sends_125 (by decide) 128 rfl (fun c_36 => ?_) (fun c_36 => ?_)
    · have h := o_pos h c_36
      exact g_sub C [0, 3] rfl (hk177 x3 σ h)
    · have h := o_neg h c_36
      refine g_aload_n C dX11_sends_128 rfl 0 rfl 129 rfl ?_
      refine wgX11_143_0 C dX11_sends_129 132 rfl ?_
      refine g_bipush C (v := 8) dX11_sends_132 (by decide) 134 rfl ?_
      refine g_iload_n C dX11_sends_134 rfl 3 rfl 135 rfl ?_
      refine g_imul C dX11_sends_135 136 rfl ?_
      refine g_iload C dX11_sends_136 4 rfl 138 rfl ?_
      refine g_iadd C dX11_sends_138 139 rfl ?_
      refine g_aload_n C dX11_sends_139 rfl 0 rfl 140 rfl ?_
      refine wgX11_110_0 C dX11_sends_140 143 rfl ?_
      refine g_iload_n C dX11_sends_143 rfl 2 rfl 144 rfl ?_
      obtain ⟨c_37, h⟩ := o_chk h
      refine wlM_31 C c_37 dX11_sends_144 145 rfl ?_
      refine g_iload C dX11_sends_145 4 rfl 147 rfl ?_
      refine g_ishr C dX11_sends_147 148 rfl ?_
      refine g_iconst C (v := 1) dX11_sends_148 (by decide) 149 rfl ?_
      refine g_iand C dX11_sends_149 150 rfl ?_
      refine g_iconst C (v := 1) dX11_sends_150 (by decide) 151 rfl ?_
      refine g_icmp_ne C 169 dX11_sends_151 (by decide) 154 rfl (fun c_38 => ?_) (fun c_38 => ?_)
      · have h := o_neg h c_38
        refine g_lconst C (v := 0) dX11_sends_169 (by decide) 170 rfl ?_
        obtain ⟨c_39, h⟩ := o_chk h
        obtain ⟨σ_40, eσ_40, h⟩ := o_lt h
        refine wtM_42 C eσ_40 c_39 dX11_sends_170 171 rfl ?_
        obtain ⟨x5_41, ex5_41, h⟩ := o_lt h
        refine g_iinc C (lv' := [(5, .int x5_41), (0, .ref (ad 0)), (1, .int x1), (2, .int x2), (3, .int x3)]) ex5_41 dX11_sends_171 4 rfl (by decide) (by decide) rfl 174 rfl ?_
        refine g_goto C 121 dX11_sends_174 (by decide) ?_
        exact g_sub C [1, 2, 3, 4, 0] rfl (ih x1 x2 x3 x5_41 σ_40 h)
      · have h := o_pos h c_38
        refine g_aload_n C dX11_sends_154 rfl 0 rfl 155 rfl ?_
        refine wgX11_131_0 C dX11_sends_155 158 rfl ?_
        refine g_bipush C (v := 8) dX11_sends_158 (by decide) 160 rfl ?_
        refine g_iload_n C dX11_sends_160 rfl 1 rfl 161 rfl ?_
        refine g_imul C dX11_sends_161 162 rfl ?_
        refine g_iload C dX11_sends_162 4 rfl 164 rfl ?_
        refine g_iadd C dX11_sends_164 165 rfl ?_
        obtain ⟨c_42, h⟩ := o_chk h
        refine wlM_38 C c_42 dX11_sends_165 166 rfl ?_
        refine g_goto C 170 dX11_sends_166 (by decide) ?_
        obtain ⟨c_43, h⟩ := o_chk h
        obtain ⟨σ_44, eσ_44, h⟩ := o_lt h
        refine wtM_42 C eσ_44 c_43 dX11_sends_170 171 rfl ?_
        obtain ⟨x5_45, ex5_45, h⟩ := o_lt h
        refine g_iinc C (lv' := [(5, .int x5_45), (0, .ref (ad 0)), (1, .int x1), (2, .int x2), (3, .int x3)]) ex5_45 dX11_sends_171 4 rfl (by decide) (by decide) rfl 174 rfl ?_
        refine g_goto C 121 dX11_sends_174 (by decide) ?_
        exact g_sub C [1, 2, 3, 4, 0] rfl (ih x1 x2 x3 x5_45 σ_44 h)
set_option maxHeartbeats 4000000 in
set_option maxRecDepth 100000 in
theorem kX11_sends {l : Launch} {D : va_G} {ad : Nat → Nat} {cI cJ cB cZ : ClassId}  {n : Nat} {x1 : Int32} {x2 : Int32} {σ : ST} {res : ST} (h : fX11_sends n x1 x2 σ = some res) : CMv l D (tyz cI cJ cB cZ) (wM ad cI cJ cB cZ) 0 yX11_sends cX11_sends 8 none [.ref (ad 0), .int x1, .int x2] σ res := by
  refine cmv_body (own := RX11) (lv := [(0, .ref (ad 0)), (1, .int x1), (2, .int x2)]) (by decide) rfl (wM_addr _ _ _ _ _) (Nat.le_of_ble_eq_true rfl) rfl (fun p e s m args below meth c A C hr => ?_)
  unfold fX11_sends at h
  refine g_bipush C (v := 6) dX11_sends_0 (by decide) 2 rfl ?_
  refine g_iload_n C dX11_sends_2 rfl 1 rfl 3 rfl ?_
  refine g_imul C dX11_sends_3 4 rfl ?_
  refine g_iload_n C dX11_sends_4 rfl 2 rfl 5 rfl ?_
  refine g_iadd C dX11_sends_5 6 rfl ?_
  obtain ⟨x3_1, ex3_1, h⟩ := o_lt h
  refine g_istore_n C (lv' := [(3, .int x3_1), (0, .ref (ad 0)), (1, .int x1), (2, .int x2)]) ex3_1 dX11_sends_6 rfl (by decide) rfl 7 rfl ?_
  refine g_aload_n C dX11_sends_7 rfl 1 rfl 8 rfl ?_
  refine wgX11_134_0 C dX11_sends_8 11 rfl ?_
  refine g_iload_n C dX11_sends_11 rfl 0 rfl 12 rfl ?_
  obtain ⟨c_2, h⟩ := o_chk h
  refine wlM_39 C c_2 dX11_sends_12 13 rfl ?_
  refine g_if_ne C 17 dX11_sends_13 (by decide) 16 rfl (fun c_3 => ?_) (fun c_3 => ?_)
  · have h := o_neg h c_3
    refine g_aload_n C dX11_sends_17 rfl 1 rfl 18 rfl ?_
    refine wgX11_137_0 C dX11_sends_18 21 rfl ?_
    refine g_iload_n C dX11_sends_21 rfl 0 rfl 22 rfl ?_
    obtain ⟨c_4, h⟩ := o_chk h
    refine wlM_40 C c_4 dX11_sends_22 23 rfl ?_
    refine g_if_ne C 30 dX11_sends_23 (by decide) 26 rfl (fun c_5 => ?_) (fun c_5 => ?_)
    · have h := o_neg h c_5
      refine g_iconst C (v := 0) dX11_sends_30 (by decide) 31 rfl ?_
      obtain ⟨x4_6, ex4_6, h⟩ := o_lt h
      refine g_istore C (lv' := [(4, .int x4_6), (3, .int x3_1), (0, .ref (ad 0)), (1, .int x1), (2, .int x2)]) ex4_6 dX11_sends_31 (by decide) rfl 33 rfl ?_
      refine g_iconst C (v := 0) dX11_sends_33 (by decide) 34 rfl ?_
      obtain ⟨x5_7, ex5_7, h⟩ := o_lt h
      refine g_istore C (lv' := [(5, .int x5_7), (4, .int x4_6), (3, .int x3_1), (0, .ref (ad 0)), (1, .int x1), (2, .int x2)]) ex5_7 dX11_sends_34 (by decide) rfl 36 rfl ?_
      exact g_sub C [3, 4, 5, 2, 1, 0] rfl (kX11_sends_L36 C hr (fun x1_29 x2_30 x3_31 x4_32 σ_33 h => by
          refine g_iload C dX11_sends_112 4 rfl 114 rfl ?_
          refine g_if_ne C 118 dX11_sends_114 (by decide) 117 rfl (fun c_34 => ?_) (fun c_34 => ?_)
          · have h := o_neg h c_34
            refine g_iconst C (v := 0) dX11_sends_118 (by decide) 119 rfl ?_
            obtain ⟨x5_35, ex5_35, h⟩ := o_lt h
            refine g_istore C (lv' := [(5, .int x5_35), (0, .ref (ad 0)), (1, .int x1_29), (2, .int x2_30), (3, .int x3_31), (4, .int x4_32)]) ex5_35 dX11_sends_119 (by decide) rfl 121 rfl ?_
            exact g_sub C [1, 2, 3, 4, 0] rfl (kX11_sends_L121 C hr (fun x3_46 σ_47 h => by
                refine g_aload_n C dX11_sends_177 rfl 0 rfl 178 rfl ?_
                refine wgX11_137_0 C dX11_sends_178 181 rfl ?_
                refine g_iload_n C dX11_sends_181 rfl 1 rfl 182 rfl ?_
                refine g_iconst C (v := 1) dX11_sends_182 (by decide) 183 rfl ?_
                obtain ⟨c_48, h⟩ := o_chk h
                obtain ⟨σ_49, eσ_49, h⟩ := o_lt h
                refine wtM_40 C eσ_49 c_48 dX11_sends_183 184 rfl ?_
                refine g_aload_n C dX11_sends_184 rfl 0 rfl 185 rfl ?_
                refine wgX11_140_0 C dX11_sends_185 188 rfl ?_
                refine g_iload_n C dX11_sends_188 rfl 1 rfl 189 rfl ?_
                refine g_dup2 C dX11_sends_189 rfl rfl 190 rfl ?_
                obtain ⟨c_50, h⟩ := o_chk h
                refine wlM_41 C c_50 dX11_sends_190 191 rfl ?_
                refine g_iconst C (v := 1) dX11_sends_191 (by decide) 192 rfl ?_
                refine g_iadd C dX11_sends_192 193 rfl ?_
                obtain ⟨c_51, h⟩ := o_chk h
                obtain ⟨σ_52, eσ_52, h⟩ := o_lt h
                refine wtM_41 C eσ_52 c_51 dX11_sends_193 194 rfl ?_
                exact g_vret C hr dX11_sends_194 h) n x1_29 x2_30 x3_31 x5_35 σ_33 h)
          · have h := o_pos h c_34
            exact g_vret C hr dX11_sends_117 h) n x1 x2 x3_1 x4_6 x5_7 σ h)
    · have h := o_pos h c_5
      refine g_iconst C (v := 1) dX11_sends_26 (by decide) 27 rfl ?_
      refine g_goto C 31 dX11_sends_27 (by decide) ?_
      obtain ⟨x4_53, ex4_53, h⟩ := o_lt h
      refine g_istore C (lv' := [(4, .int x4_53), (3, .int x3_1), (0, .ref (ad 0)), (1, .int x1), (2, .int x2)]) ex4_53 dX11_sends_31 (by decide) rfl 33 rfl ?_
      refine g_iconst C (v := 0) dX11_sends_33 (by decide) 34 rfl ?_
      obtain ⟨x5_54, ex5_54, h⟩ := o_lt h
      refine g_istore C (lv' := [(5, .int x5_54), (4, .int x4_53), (3, .int x3_1), (0, .ref (ad 0)), (1, .int x1), (2, .int x2)]) ex5_54 dX11_sends_34 (by decide) rfl 36 rfl ?_
      exact g_sub C [3, 4, 5, 2, 1, 0] rfl (kX11_sends_L36 C hr (fun x1_55 x2_56 x3_57 x4_58 σ_59 h => by
          refine g_iload C dX11_sends_112 4 rfl 114 rfl ?_
          refine g_if_ne C 118 dX11_sends_114 (by decide) 117 rfl (fun c_60 => ?_) (fun c_60 => ?_)
          · have h := o_neg h c_60
            refine g_iconst C (v := 0) dX11_sends_118 (by decide) 119 rfl ?_
            obtain ⟨x5_61, ex5_61, h⟩ := o_lt h
            refine g_istore C (lv' := [(5, .int x5_61), (0, .ref (ad 0)), (1, .int x1_55), (2, .int x2_56), (3, .int x3_57), (4, .int x4_58)]) ex5_61 dX11_sends_119 (by decide) rfl 121 rfl ?_
            exact g_sub C [1, 2, 3, 4, 0] rfl (kX11_sends_L121 C hr (fun x3_62 σ_63 h => by
                refine g_aload_n C dX11_sends_177 rfl 0 rfl 178 rfl ?_
                refine wgX11_137_0 C dX11_sends_178 181 rfl ?_
                refine g_iload_n C dX11_sends_181 rfl 1 rfl 182 rfl ?_
                refine g_iconst C (v := 1) dX11_sends_182 (by decide) 183 rfl ?_
                obtain ⟨c_64, h⟩ := o_chk h
                obtain ⟨σ_65, eσ_65, h⟩ := o_lt h
                refine wtM_40 C eσ_65 c_64 dX11_sends_183 184 rfl ?_
                refine g_aload_n C dX11_sends_184 rfl 0 rfl 185 rfl ?_
                refine wgX11_140_0 C dX11_sends_185 188 rfl ?_
                refine g_iload_n C dX11_sends_188 rfl 1 rfl 189 rfl ?_
                refine g_dup2 C dX11_sends_189 rfl rfl 190 rfl ?_
                obtain ⟨c_66, h⟩ := o_chk h
                refine wlM_41 C c_66 dX11_sends_190 191 rfl ?_
                refine g_iconst C (v := 1) dX11_sends_191 (by decide) 192 rfl ?_
                refine g_iadd C dX11_sends_192 193 rfl ?_
                obtain ⟨c_67, h⟩ := o_chk h
                obtain ⟨σ_68, eσ_68, h⟩ := o_lt h
                refine wtM_41 C eσ_68 c_67 dX11_sends_193 194 rfl ?_
                exact g_vret C hr dX11_sends_194 h) n x1_55 x2_56 x3_57 x5_61 σ_59 h)
          · have h := o_pos h c_60
            exact g_vret C hr dX11_sends_117 h) n x1 x2 x3_1 x4_53 x5_54 σ h)
  · have h := o_pos h c_3
    exact g_vret C hr dX11_sends_16 h
end WK
/-! X11_hold public boolean hold(int, boolean); -/
def fX11_hold_L33  : Nat → Int32 → Int32 → ST → Option (Int32 × ST)
  | 0, _, _, _ => none
  | n + 1, x1, x3, σ => (if ix (gI σ 11) 2 then (if (ldA σ 8 (gI σ 11)) ≤ x3 then (some ((1 : Int32), σ)) else (if ix ((((7 : Int32)) * (gI σ 11)) + x3) 14 then (if (ldA σ 10 ((((7 : Int32)) * (gI σ 11)) + x3)) = 0 then (lt (x3 + 1) (fun x3_13 => (fX11_hold_L33 n x1 x3_13 σ))) else (if ix x3 7 then (if (ldA σ 35 x3) = ((-1 : Int32)) then (lt (x3 + 1) (fun x3_16 => (fX11_hold_L33 n x1 x3_16 σ))) else (Option.bind (fX11_sends n x3 x1 σ) (fun q_17 => (lt (x3 + 1) (fun x3_18 => (fX11_hold_L33 n x1 x3_18 q_17)))))) else none)) else none)) else none)
def fX11_hold (n : Nat) (x1 : Int32) (x2 : Int32) (σ : ST) : Option (Int32 × ST) :=
  (Option.bind (fX11_isReader x1 σ) (fun q_1 => (if q_1.1 = 0 then (some ((0 : Int32), q_1.2)) else (if ix x1 6 then (if (ldA q_1.2 32 x1) = x2 then (some ((0 : Int32), q_1.2)) else (if ix x1 6 then (lt (stA q_1.2 32 x1 (nz x2)) (fun σ_6 => (if x2 = 0 then (lt ((0 : Int32)) (fun x3_8 => (fX11_hold_L33 n x1 x3_8 σ_6))) else (some ((1 : Int32), σ_6))))) else none)) else none))))
section WK
variable {p : Program} {l : Launch} {e : Env} {R : Room} {s : State} {m : MethodId} {args : Array Value} {below : List Frame} {meth : Method} {c : Code} {Q : State → Prop}
variable {D : va_G} {ad : Nat → Nat} {cI cJ cB cZ : ClassId} {A : Nat → Prop} {cc : ByteArray} {nL lev : Nat}
variable {σ : ST} {pc : Nat} {lv : List (Nat × Value)} {st : List Value}
set_option maxHeartbeats 4000000 in
set_option maxRecDepth 100000 in
theorem kX11_hold_L33 (C : Ctx p l e (rmL 1) s m args below meth c D (tyz cI cJ cB cZ) (wM ad cI cJ cB cZ) A cX11_hold 4 1 RX11) (hr : meth.sig.returnType = some .boolean) {res : Int32 × ST}   : ∀ (n : Nat) (x1 : Int32) (x3 : Int32) (σ : ST), fX11_hold_L33 n x1 x3 σ = some res → G p l e (rmL 1) s m args below meth c (MQ below (Qi D (tyz cI cJ cB cZ) (wM ad cI cJ cB cZ) A res) args s 0 0 A) D (wM ad cI cJ cB cZ) A 4 σ 33 [(0, .ref (ad 0)), (1, .int x1), (3, .int x3)] [] := by
  intro n
  induction n with
  | zero => intro x1 x3 σ h; have h : none = some res := h; cases h
  | succ n ih =>
    intro x1 x3 σ h
    rw [fX11_hold_L33] at h
    refine g_iload_n C dX11_hold_33 rfl 2 rfl 34 rfl ?_
    refine g_aload_n C dX11_hold_34 rfl 0 rfl 35 rfl ?_
    refine wgX11_40_0 C dX11_hold_35 38 rfl ?_
    refine g_aload_n C dX11_hold_38 rfl 0 rfl 39 rfl ?_
    refine wgX11_234_0 C dX11_hold_39 42 rfl ?_
    obtain ⟨c_9, h⟩ := o_chk h
    refine wlM_8 C c_9 dX11_hold_42 43 rfl ?_
    refine g_icmp_ge C 85 dX11_hold_43 (by decide) 46 rfl (fun c_10 => ?_) (fun c_10 => ?_)
    · have h := o_pos h c_10
      refine g_iconst C (v := 1) dX11_hold_85 (by decide) 86 rfl ?_
      exact g_zret C hr (by decide) dX11_hold_86 h
    · have h := o_neg h c_10
      refine g_aload_n C dX11_hold_46 rfl 0 rfl 47 rfl ?_
      refine wgX11_46_0 C dX11_hold_47 50 rfl ?_
      refine g_bipush C (v := 7) dX11_hold_50 (by decide) 52 rfl ?_
      refine g_aload_n C dX11_hold_52 rfl 0 rfl 53 rfl ?_
      refine wgX11_234_0 C dX11_hold_53 56 rfl ?_
      refine g_imul C dX11_hold_56 57 rfl ?_
      refine g_iload_n C dX11_hold_57 rfl 2 rfl 58 rfl ?_
      refine g_iadd C dX11_hold_58 59 rfl ?_
      obtain ⟨c_11, h⟩ := o_chk h
      refine wlM_10 C c_11 dX11_hold_59 60 rfl ?_
      refine g_if_eq C 79 dX11_hold_60 (by decide) 63 rfl (fun c_12 => ?_) (fun c_12 => ?_)
      · have h := o_pos h c_12
        obtain ⟨x3_13, ex3_13, h⟩ := o_lt h
        refine g_iinc C (lv' := [(3, .int x3_13), (0, .ref (ad 0)), (1, .int x1)]) ex3_13 dX11_hold_79 2 rfl (by decide) (by decide) rfl 82 rfl ?_
        refine g_goto C 33 dX11_hold_82 (by decide) ?_
        exact g_sub C [1, 2, 0] rfl (ih x1 x3_13 σ h)
      · have h := o_neg h c_12
        refine g_aload_n C dX11_hold_63 rfl 0 rfl 64 rfl ?_
        refine wgX11_122_0 C dX11_hold_64 67 rfl ?_
        refine g_iload_n C dX11_hold_67 rfl 2 rfl 68 rfl ?_
        obtain ⟨c_14, h⟩ := o_chk h
        refine wlM_35 C c_14 dX11_hold_68 69 rfl ?_
        refine g_iconst C (v := -1) dX11_hold_69 (by decide) 70 rfl ?_
        refine g_icmp_eq C 79 dX11_hold_70 (by decide) 73 rfl (fun c_15 => ?_) (fun c_15 => ?_)
        · have h := o_pos h c_15
          obtain ⟨x3_16, ex3_16, h⟩ := o_lt h
          refine g_iinc C (lv' := [(3, .int x3_16), (0, .ref (ad 0)), (1, .int x1)]) ex3_16 dX11_hold_79 2 rfl (by decide) (by decide) rfl 82 rfl ?_
          refine g_goto C 33 dX11_hold_82 (by decide) ?_
          exact g_sub C [1, 2, 0] rfl (ih x1 x3_16 σ h)
        · have h := o_neg h c_15
          refine g_aload_n C dX11_hold_73 rfl 0 rfl 74 rfl ?_
          refine g_iload_n C dX11_hold_74 rfl 2 rfl 75 rfl ?_
          refine g_iload_n C dX11_hold_75 rfl 1 rfl 76 rfl ?_
          obtain ⟨q_17, hq_17, h⟩ := o_bind h
          refine wcX11_298_M_0 C (kX11_sends hq_17) (by decide) (Nat.le_of_ble_eq_true rfl) dX11_hold_76 79 rfl ?_
          obtain ⟨x3_18, ex3_18, h⟩ := o_lt h
          refine g_iinc C (lv' := [(3, .int x3_18), (0, .ref (ad 0)), (1, .int x1)]) ex3_18 dX11_hold_79 2 rfl (by decide) (by decide) rfl 82 rfl ?_
          refine g_goto C 33 dX11_hold_82 (by decide) ?_
          exact g_sub C [1, 2, 0] rfl (ih x1 x3_18 q_17 h)
set_option maxHeartbeats 4000000 in
set_option maxRecDepth 100000 in
theorem kX11_hold {l : Launch} {D : va_G} {ad : Nat → Nat} {cI cJ cB cZ : ClassId}  {n : Nat} {x1 : Int32} {x2 : Int32} {σ : ST} {res : Int32 × ST} (h : fX11_hold n x1 x2 σ = some res) : CMi l D (tyz cI cJ cB cZ) (wM ad cI cJ cB cZ) 1 yX11_hold cX11_hold 4 (some .boolean) [.ref (ad 0), .int x1, .int x2] σ res := by
  refine cmi_body (own := RX11) (lv := [(0, .ref (ad 0)), (1, .int x1), (2, .int x2)]) (by decide) rfl (wM_addr _ _ _ _ _) (Nat.le_of_ble_eq_true rfl) rfl (fun p e s m args below meth c A C hr => ?_)
  unfold fX11_hold at h
  refine g_aload_n C dX11_hold_0 rfl 0 rfl 1 rfl ?_
  refine g_iload_n C dX11_hold_1 rfl 1 rfl 2 rfl ?_
  obtain ⟨q_1, hq_1, h⟩ := o_bind h
  refine wcX11_295_M_0 C (kX11_isReader hq_1) (by decide) (Nat.le_of_ble_eq_true rfl) dX11_hold_2 5 rfl ?_
  refine g_if_eq C 18 dX11_hold_5 (by decide) 8 rfl (fun c_2 => ?_) (fun c_2 => ?_)
  · have h := o_pos h c_2
    refine g_iconst C (v := 0) dX11_hold_18 (by decide) 19 rfl ?_
    exact g_zret C hr (by decide) dX11_hold_19 h
  · have h := o_neg h c_2
    refine g_aload_n C dX11_hold_8 rfl 0 rfl 9 rfl ?_
    refine wgX11_113_0 C dX11_hold_9 12 rfl ?_
    refine g_iload_n C dX11_hold_12 rfl 1 rfl 13 rfl ?_
    obtain ⟨c_3, h⟩ := o_chk h
    refine wlM_32 C c_3 dX11_hold_13 14 rfl ?_
    refine g_iload_n C dX11_hold_14 rfl 2 rfl 15 rfl ?_
    refine g_icmp_ne C 20 dX11_hold_15 (by decide) 18 rfl (fun c_4 => ?_) (fun c_4 => ?_)
    · have h := o_neg h c_4
      refine g_aload_n C dX11_hold_20 rfl 0 rfl 21 rfl ?_
      refine wgX11_113_0 C dX11_hold_21 24 rfl ?_
      refine g_iload_n C dX11_hold_24 rfl 1 rfl 25 rfl ?_
      refine g_iload_n C dX11_hold_25 rfl 2 rfl 26 rfl ?_
      obtain ⟨c_5, h⟩ := o_chk h
      obtain ⟨σ_6, eσ_6, h⟩ := o_lt h
      refine wtM_32 C eσ_6 c_5 dX11_hold_26 27 rfl ?_
      refine g_iload_n C dX11_hold_27 rfl 2 rfl 28 rfl ?_
      refine g_if_ne C 85 dX11_hold_28 (by decide) 31 rfl (fun c_7 => ?_) (fun c_7 => ?_)
      · have h := o_neg h c_7
        refine g_iconst C (v := 1) dX11_hold_85 (by decide) 86 rfl ?_
        exact g_zret C hr (by decide) dX11_hold_86 h
      · have h := o_pos h c_7
        refine g_iconst C (v := 0) dX11_hold_31 (by decide) 32 rfl ?_
        obtain ⟨x3_8, ex3_8, h⟩ := o_lt h
        refine g_istore_n C (lv' := [(3, .int x3_8), (0, .ref (ad 0)), (1, .int x1), (2, .int x2)]) ex3_8 dX11_hold_32 rfl (by decide) rfl 33 rfl ?_
        exact g_sub C [1, 2, 0] rfl (kX11_hold_L33 C hr  n x1 x3_8 σ_6 h)
    · have h := o_pos h c_4
      refine g_iconst C (v := 0) dX11_hold_18 (by decide) 19 rfl ?_
      exact g_zret C hr (by decide) dX11_hold_19 h
end WK
/-! X11_isStep private boolean isStep(int); -/
def fX11_isStep (x1 : Int32) (σ : ST) : Option (Int32 × ST) :=
  (if x1 < 0 then (some ((0 : Int32), σ)) else (if ix (gI σ 11) 2 then (if (ldA σ 8 (gI σ 11)) ≤ x1 then (some ((0 : Int32), σ)) else (some ((1 : Int32), σ))) else none))
section WK
variable {p : Program} {l : Launch} {e : Env} {R : Room} {s : State} {m : MethodId} {args : Array Value} {below : List Frame} {meth : Method} {c : Code} {Q : State → Prop}
variable {D : va_G} {ad : Nat → Nat} {cI cJ cB cZ : ClassId} {A : Nat → Prop} {cc : ByteArray} {nL lev : Nat}
variable {σ : ST} {pc : Nat} {lv : List (Nat × Value)} {st : List Value}
set_option maxHeartbeats 4000000 in
set_option maxRecDepth 100000 in
theorem kX11_isStep {l : Launch} {D : va_G} {ad : Nat → Nat} {cI cJ cB cZ : ClassId}  {x1 : Int32} {σ : ST} {res : Int32 × ST} (h : fX11_isStep x1 σ = some res) : CMi l D (tyz cI cJ cB cZ) (wM ad cI cJ cB cZ) 0 yX11_isStep cX11_isStep 2 (some .boolean) [.ref (ad 0), .int x1] σ res := by
  refine cmi_body (own := RX11) (lv := [(0, .ref (ad 0)), (1, .int x1)]) (by decide) rfl (wM_addr _ _ _ _ _) (Nat.le_of_ble_eq_true rfl) rfl (fun p e s m args below meth c A C hr => ?_)
  unfold fX11_isStep at h
  refine g_iload_n C dX11_isStep_0 rfl 1 rfl 1 rfl ?_
  refine g_if_lt C 21 dX11_isStep_1 (by decide) 4 rfl (fun c_1 => ?_) (fun c_1 => ?_)
  · have h := o_pos h c_1
    refine g_iconst C (v := 0) dX11_isStep_21 (by decide) 22 rfl ?_
    exact g_zret C hr (by decide) dX11_isStep_22 h
  · have h := o_neg h c_1
    refine g_iload_n C dX11_isStep_4 rfl 1 rfl 5 rfl ?_
    refine g_aload_n C dX11_isStep_5 rfl 0 rfl 6 rfl ?_
    refine wgX11_40_0 C dX11_isStep_6 9 rfl ?_
    refine g_aload_n C dX11_isStep_9 rfl 0 rfl 10 rfl ?_
    refine wgX11_234_0 C dX11_isStep_10 13 rfl ?_
    obtain ⟨c_2, h⟩ := o_chk h
    refine wlM_8 C c_2 dX11_isStep_13 14 rfl ?_
    refine g_icmp_ge C 21 dX11_isStep_14 (by decide) 17 rfl (fun c_3 => ?_) (fun c_3 => ?_)
    · have h := o_pos h c_3
      refine g_iconst C (v := 0) dX11_isStep_21 (by decide) 22 rfl ?_
      exact g_zret C hr (by decide) dX11_isStep_22 h
    · have h := o_neg h c_3
      refine g_iconst C (v := 1) dX11_isStep_17 (by decide) 18 rfl ?_
      refine g_goto C 22 dX11_isStep_18 (by decide) ?_
      exact g_zret C hr (by decide) dX11_isStep_22 h
end WK
/-! X11_reads public boolean reads(int, int); -/
def fX11_reads (x1 : Int32) (x2 : Int32) (σ : ST) : Option (Int32 × ST) :=
  (Option.bind (fX11_isStep x1 σ) (fun q_1 => (if q_1.1 = 0 then (some ((0 : Int32), q_1.2)) else (if ix ((((7 : Int32)) * (gI q_1.2 11)) + x1) 14 then (if (ldA q_1.2 10 ((((7 : Int32)) * (gI q_1.2 11)) + x1)) = 0 then (some ((0 : Int32), q_1.2)) else (Option.bind (fX11_isReader x2 q_1.2) (fun q_5 => (if q_5.1 = 0 then (some ((0 : Int32), q_5.2)) else (if ix ((((6 : Int32)) * x1) + x2) 42 then (if (ldA q_5.2 39 ((((6 : Int32)) * x1) + x2)) = 0 then (if ix ((((6 : Int32)) * x1) + x2) 42 then (lt (stA q_5.2 39 ((((6 : Int32)) * x1) + x2) (nz ((1 : Int32)))) (fun σ_10 => (some ((1 : Int32), σ_10)))) else none) else (some ((0 : Int32), q_5.2))) else none))))) else none))))
section WK
variable {p : Program} {l : Launch} {e : Env} {R : Room} {s : State} {m : MethodId} {args : Array Value} {below : List Frame} {meth : Method} {c : Code} {Q : State → Prop}
variable {D : va_G} {ad : Nat → Nat} {cI cJ cB cZ : ClassId} {A : Nat → Prop} {cc : ByteArray} {nL lev : Nat}
variable {σ : ST} {pc : Nat} {lv : List (Nat × Value)} {st : List Value}
set_option maxHeartbeats 4000000 in
set_option maxRecDepth 100000 in
theorem kX11_reads {l : Launch} {D : va_G} {ad : Nat → Nat} {cI cJ cB cZ : ClassId}  {x1 : Int32} {x2 : Int32} {σ : ST} {res : Int32 × ST} (h : fX11_reads x1 x2 σ = some res) : CMi l D (tyz cI cJ cB cZ) (wM ad cI cJ cB cZ) 1 yX11_reads cX11_reads 3 (some .boolean) [.ref (ad 0), .int x1, .int x2] σ res := by
  refine cmi_body (own := RX11) (lv := [(0, .ref (ad 0)), (1, .int x1), (2, .int x2)]) (by decide) rfl (wM_addr _ _ _ _ _) (Nat.le_of_ble_eq_true rfl) rfl (fun p e s m args below meth c A C hr => ?_)
  unfold fX11_reads at h
  refine g_aload_n C dX11_reads_0 rfl 0 rfl 1 rfl ?_
  refine g_iload_n C dX11_reads_1 rfl 1 rfl 2 rfl ?_
  obtain ⟨q_1, hq_1, h⟩ := o_bind h
  refine wcX11_301_M_0 C (kX11_isStep hq_1) (by decide) (Nat.le_of_ble_eq_true rfl) dX11_reads_2 5 rfl ?_
  refine g_if_eq C 47 dX11_reads_5 (by decide) 8 rfl (fun c_2 => ?_) (fun c_2 => ?_)
  · have h := o_pos h c_2
    refine g_iconst C (v := 0) dX11_reads_47 (by decide) 48 rfl ?_
    exact g_zret C hr (by decide) dX11_reads_48 h
  · have h := o_neg h c_2
    refine g_aload_n C dX11_reads_8 rfl 0 rfl 9 rfl ?_
    refine wgX11_46_0 C dX11_reads_9 12 rfl ?_
    refine g_bipush C (v := 7) dX11_reads_12 (by decide) 14 rfl ?_
    refine g_aload_n C dX11_reads_14 rfl 0 rfl 15 rfl ?_
    refine wgX11_234_0 C dX11_reads_15 18 rfl ?_
    refine g_imul C dX11_reads_18 19 rfl ?_
    refine g_iload_n C dX11_reads_19 rfl 1 rfl 20 rfl ?_
    refine g_iadd C dX11_reads_20 21 rfl ?_
    obtain ⟨c_3, h⟩ := o_chk h
    refine wlM_10 C c_3 dX11_reads_21 22 rfl ?_
    refine g_if_eq C 47 dX11_reads_22 (by decide) 25 rfl (fun c_4 => ?_) (fun c_4 => ?_)
    · have h := o_pos h c_4
      refine g_iconst C (v := 0) dX11_reads_47 (by decide) 48 rfl ?_
      exact g_zret C hr (by decide) dX11_reads_48 h
    · have h := o_neg h c_4
      refine g_aload_n C dX11_reads_25 rfl 0 rfl 26 rfl ?_
      refine g_iload_n C dX11_reads_26 rfl 2 rfl 27 rfl ?_
      obtain ⟨q_5, hq_5, h⟩ := o_bind h
      refine wcX11_295_M_0 C (kX11_isReader hq_5) (by decide) (Nat.le_of_ble_eq_true rfl) dX11_reads_27 30 rfl ?_
      refine g_if_eq C 47 dX11_reads_30 (by decide) 33 rfl (fun c_6 => ?_) (fun c_6 => ?_)
      · have h := o_pos h c_6
        refine g_iconst C (v := 0) dX11_reads_47 (by decide) 48 rfl ?_
        exact g_zret C hr (by decide) dX11_reads_48 h
      · have h := o_neg h c_6
        refine g_aload_n C dX11_reads_33 rfl 0 rfl 34 rfl ?_
        refine wgX11_134_0 C dX11_reads_34 37 rfl ?_
        refine g_bipush C (v := 6) dX11_reads_37 (by decide) 39 rfl ?_
        refine g_iload_n C dX11_reads_39 rfl 1 rfl 40 rfl ?_
        refine g_imul C dX11_reads_40 41 rfl ?_
        refine g_iload_n C dX11_reads_41 rfl 2 rfl 42 rfl ?_
        refine g_iadd C dX11_reads_42 43 rfl ?_
        obtain ⟨c_7, h⟩ := o_chk h
        refine wlM_39 C c_7 dX11_reads_43 44 rfl ?_
        refine g_if_eq C 49 dX11_reads_44 (by decide) 47 rfl (fun c_8 => ?_) (fun c_8 => ?_)
        · have h := o_pos h c_8
          refine g_aload_n C dX11_reads_49 rfl 0 rfl 50 rfl ?_
          refine wgX11_134_0 C dX11_reads_50 53 rfl ?_
          refine g_bipush C (v := 6) dX11_reads_53 (by decide) 55 rfl ?_
          refine g_iload_n C dX11_reads_55 rfl 1 rfl 56 rfl ?_
          refine g_imul C dX11_reads_56 57 rfl ?_
          refine g_iload_n C dX11_reads_57 rfl 2 rfl 58 rfl ?_
          refine g_iadd C dX11_reads_58 59 rfl ?_
          refine g_iconst C (v := 1) dX11_reads_59 (by decide) 60 rfl ?_
          obtain ⟨c_9, h⟩ := o_chk h
          obtain ⟨σ_10, eσ_10, h⟩ := o_lt h
          refine wtM_39 C eσ_10 c_9 dX11_reads_60 61 rfl ?_
          refine g_iconst C (v := 1) dX11_reads_61 (by decide) 62 rfl ?_
          exact g_zret C hr (by decide) dX11_reads_62 h
        · have h := o_neg h c_8
          refine g_iconst C (v := 0) dX11_reads_47 (by decide) 48 rfl ?_
          exact g_zret C hr (by decide) dX11_reads_48 h
end WK
