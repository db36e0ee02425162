/-! X11_plan public int plan(); -/
def fX11_plan_L12 (k30 : Int32 → ST → Option (Int32 × ST)) : Nat → Int32 → Int32 → ST → Option (Int32 × ST)
  | 0, _, _, _ => none
  | n + 1, x1, x2, σ => (if x1 ≤ x2 then (k30 x1 σ) else (if ix x2 7 then (lt (stA σ 44 x2 x2) (fun σ_6 => (lt (x2 + 1) (fun x2_7 => (fX11_plan_L12 k30 n x1 x2_7 σ_6))))) else none))
def fX11_plan_L65 (k91 : Int32 → Int32 → ST → Option (Int32 × ST)) : Nat → Int32 → Int32 → Int32 → ST → Option (Int32 × ST)
  | 0, _, _, _, _ => none
  | n + 1, x1, x2, x5, σ => (if x1 ≤ x5 then (k91 x1 x2 σ) else (if ix x5 7 then (if ix x5 7 then (lt (stA σ 34 x5 (ldA σ 44 x5)) (fun σ_31 => (lt (x5 + 1) (fun x5_32 => (fX11_plan_L65 k91 n x1 x2 x5_32 σ_31))))) else none) else none))
def fX11_plan_L34  : Nat → Int32 → Int32 → Int32 → ST → Option (Int32 × ST)
  | 0, _, _, _, _ => none
  | n + 1, x1, x2, x3, σ => (if x3 = 0 then (some (x2, σ)) else (Option.bind (fX11_foresees n σ) (fun q_13 => (Option.bind (fX11_lates n q_13) (fun q_14 => (lt (q_14.1) (fun x4_15 => (lt (fun (x1_16 : Int32) (x2_17 : Int32) (σ_18 : ST) => (if x2_17 ≤ 0 then (lt ((0 : Int32)) (fun x3_20 => (fX11_plan_L34 n x1_16 x2_17 x3_20 σ_18))) else (Option.bind (fX11_nextRow n x1_16 σ_18) (fun q_21 => (if q_21.1 = 0 then (lt ((0 : Int32)) (fun x3_23 => (fX11_plan_L34 n x1_16 x2_17 x3_23 q_21.2))) else (lt ((1 : Int32)) (fun x3_24 => (fX11_plan_L34 n x1_16 x2_17 x3_24 q_21.2)))))))) (fun j91 => (if x2 = ((-1 : Int32)) then (lt (x4_15) (fun x2_26 => (lt ((0 : Int32)) (fun x5_27 => (fX11_plan_L65 (fun (x1_33 : Int32) (x2_34 : Int32) (σ_35 : ST) => (j91 x1_33 x2_34 σ_35)) n x1 x2_26 x5_27 q_14.2))))) else (if x2 ≤ x4_15 then (j91 x1 x2 q_14.2) else (lt (x4_15) (fun x2_37 => (lt ((0 : Int32)) (fun x5_38 => (fX11_plan_L65 (fun (x1_39 : Int32) (x2_40 : Int32) (σ_41 : ST) => (j91 x1_39 x2_40 σ_41)) n x1 x2_37 x5_38 q_14.2))))))))))))))))
def fX11_plan (n : Nat)  (σ : ST) : Option (Int32 × ST) :=
  (if ix (gI σ 11) 2 then (lt (ldA σ 8 (gI σ 11)) (fun x1_2 => (lt ((0 : Int32)) (fun x2_3 => (fX11_plan_L12 (fun (x1_8 : Int32) (σ_9 : ST) => (lt ((-1 : Int32)) (fun x2_10 => (lt ((1 : Int32)) (fun x3_11 => (fX11_plan_L34 n x1_8 x2_10 x3_11 σ_9)))))) n x1_2 x2_3 σ))))) else none)
section WK
variable {p : Program} {l : Launch} {e : Env} {R : Room} {s : State} {m : MethodId} {args : Array Value} {below : List Frame} {meth : Method} {c : Code} {Q : State → Prop}
variable {D : va_G} {ad : Nat → Nat} {cI cJ cB cZ : ClassId} {A : Nat → Prop} {cc : ByteArray} {nL lev : Nat}
variable {σ : ST} {pc : Nat} {lv : List (Nat × Value)} {st : List Value}
set_option maxHeartbeats 4000000 in
set_option maxRecDepth 100000 in
theorem kX11_plan_L12 (C : Ctx p l e (rmL 2) s m args below meth c D (tyz cI cJ cB cZ) (wM ad cI cJ cB cZ) A cX11_plan 6 2 RX11) (hr : meth.sig.returnType = some .int) {res : Int32 × ST} {k30 : Int32 → ST → Option (Int32 × ST)} (hk30 : ∀ (x1 : Int32) (σ : ST), k30 x1 σ = some res → G p l e (rmL 2) s m args below meth c (MQ below (Qi D (tyz cI cJ cB cZ) (wM ad cI cJ cB cZ) A res) args s 0 0 A) D (wM ad cI cJ cB cZ) A 6 σ 30 [(0, .ref (ad 0)), (1, .int x1)] []) : ∀ (n : Nat) (x1 : Int32) (x2 : Int32) (σ : ST), fX11_plan_L12 k30 n x1 x2 σ = some res → G p l e (rmL 2) s m args below meth c (MQ below (Qi D (tyz cI cJ cB cZ) (wM ad cI cJ cB cZ) A res) args s 0 0 A) D (wM ad cI cJ cB cZ) A 6 σ 12 [(0, .ref (ad 0)), (1, .int x1), (2, .int x2)] [] := by
  intro n
  induction n with
  | zero => intro x1 x2 σ h; have h : none = some res := h; cases h
  | succ n ih =>
    intro x1 x2 σ h
    rw [fX11_plan_L12] at h
    refine g_iload_n C dX11_plan_12 rfl 2 rfl 13 rfl ?_
    refine g_iload_n C dX11_plan_13 rfl 1 rfl 14 rfl ?_
    refine g_icmp_ge C 30 dX11_plan_14 (by decide) 17 rfl (fun c_4 => ?_) (fun c_4 => ?_)
    · have h := o_pos h c_4
      exact g_sub C [0, 1] rfl (hk30 x1 σ h)
    · have h := o_neg h c_4
      refine g_aload_n C dX11_plan_17 rfl 0 rfl 18 rfl ?_
      refine wgX11_149_0 C dX11_plan_18 21 rfl ?_
      refine g_iload_n C dX11_plan_21 rfl 2 rfl 22 rfl ?_
      refine g_iload_n C dX11_plan_22 rfl 2 rfl 23 rfl ?_
      obtain ⟨c_5, h⟩ := o_chk h
      obtain ⟨σ_6, eσ_6, h⟩ := o_lt h
      refine wtM_44 C eσ_6 c_5 dX11_plan_23 24 rfl ?_
      obtain ⟨x2_7, ex2_7, h⟩ := o_lt h
      refine g_iinc C (lv' := [(2, .int x2_7), (0, .ref (ad 0)), (1, .int x1)]) ex2_7 dX11_plan_24 2 rfl (by decide) (by decide) rfl 27 rfl ?_
      refine g_goto C 12 dX11_plan_27 (by decide) ?_
      exact g_sub C [1, 2, 0] rfl (ih x1 x2_7 σ_6 h)
set_option maxHeartbeats 4000000 in
set_option maxRecDepth 100000 in
theorem kX11_plan_L65 (C : Ctx p l e (rmL 2) s m args below meth c D (tyz cI cJ cB cZ) (wM ad cI cJ cB cZ) A cX11_plan 6 2 RX11) (hr : meth.sig.returnType = some .int) {res : Int32 × ST} {k91 : Int32 → Int32 → ST → Option (Int32 × ST)} (hk91 : ∀ (x1 : Int32) (x2 : Int32) (σ : ST), k91 x1 x2 σ = some res → G p l e (rmL 2) s m args below meth c (MQ below (Qi D (tyz cI cJ cB cZ) (wM ad cI cJ cB cZ) A res) args s 0 0 A) D (wM ad cI cJ cB cZ) A 6 σ 91 [(0, .ref (ad 0)), (1, .int x1), (2, .int x2)] []) : ∀ (n : Nat) (x1 : Int32) (x2 : Int32) (x5 : Int32) (σ : ST), fX11_plan_L65 k91 n x1 x2 x5 σ = some res → G p l e (rmL 2) s m args below meth c (MQ below (Qi D (tyz cI cJ cB cZ) (wM ad cI cJ cB cZ) A res) args s 0 0 A) D (wM ad cI cJ cB cZ) A 6 σ 65 [(0, .ref (ad 0)), (1, .int x1), (2, .int x2), (5, .int x5)] [] := by
  intro n
  induction n with
  | zero => intro x1 x2 x5 σ h; have h : none = some res := h; cases h
  | succ n ih =>
    intro x1 x2 x5 σ h
    rw [fX11_plan_L65] at h
    refine g_iload C dX11_plan_65 3 rfl 67 rfl ?_
    refine g_iload_n C dX11_plan_67 rfl 1 rfl 68 rfl ?_
    refine g_icmp_ge C 91 dX11_plan_68 (by decide) 71 rfl (fun c_28 => ?_) (fun c_28 => ?_)
    · have h := o_pos h c_28
      exact g_sub C [0, 1, 2] rfl (hk91 x1 x2 σ h)
    · have h := o_neg h c_28
      refine g_aload_n C dX11_plan_71 rfl 0 rfl 72 rfl ?_
      refine wgX11_119_0 C dX11_plan_72 75 rfl ?_
      refine g_iload C dX11_plan_75 3 rfl 77 rfl ?_
      refine g_aload_n C dX11_plan_77 rfl 0 rfl 78 rfl ?_
      refine wgX11_149_0 C dX11_plan_78 81 rfl ?_
      refine g_iload C dX11_plan_81 3 rfl 83 rfl ?_
      obtain ⟨c_29, h⟩ := o_chk h
      refine wlM_44 C c_29 dX11_plan_83 84 rfl ?_
      obtain ⟨c_30, h⟩ := o_chk h
      obtain ⟨σ_31, eσ_31, h⟩ := o_lt h
      refine wtM_34 C eσ_31 c_30 dX11_plan_84 85 rfl ?_
      obtain ⟨x5_32, ex5_32, h⟩ := o_lt h
      refine g_iinc C (lv' := [(5, .int x5_32), (0, .ref (ad 0)), (1, .int x1), (2, .int x2)]) ex5_32 dX11_plan_85 3 rfl (by decide) (by decide) rfl 88 rfl ?_
      refine g_goto C 65 dX11_plan_88 (by decide) ?_
      exact g_sub C [1, 2, 3, 0] rfl (ih x1 x2 x5_32 σ_31 h)
set_option maxHeartbeats 4000000 in
set_option maxRecDepth 100000 in
theorem kX11_plan_L34 (C : Ctx p l e (rmL 2) s m args below meth c D (tyz cI cJ cB cZ) (wM ad cI cJ cB cZ) A cX11_plan 6 2 RX11) (hr : meth.sig.returnType = some .int) {res : Int32 × ST}   : ∀ (n : Nat) (x1 : Int32) (x2 : Int32) (x3 : Int32) (σ : ST), fX11_plan_L34 n x1 x2 x3 σ = some res → G p l e (rmL 2) s m args below meth c (MQ below (Qi D (tyz cI cJ cB cZ) (wM ad cI cJ cB cZ) A res) args s 0 0 A) D (wM ad cI cJ cB cZ) A 6 σ 34 [(0, .ref (ad 0)), (1, .int x1), (2, .int x2), (3, .int x3)] [] := by
  intro n
  induction n with
  | zero => intro x1 x2 x3 σ h; have h : none = some res := h; cases h
  | succ n ih =>
    intro x1 x2 x3 σ h
    rw [fX11_plan_L34] at h
    refine g_iload_n C dX11_plan_34 rfl 3 rfl 35 rfl ?_
    refine g_if_eq C 112 dX11_plan_35 (by decide) 38 rfl (fun c_12 => ?_) (fun c_12 => ?_)
    · have h := o_pos h c_12
      refine g_iload_n C dX11_plan_112 rfl 2 rfl 113 rfl ?_
      exact g_iret C hr dX11_plan_113 h
    · have h := o_neg h c_12
      refine g_aload_n C dX11_plan_38 rfl 0 rfl 39 rfl ?_
      obtain ⟨q_13, hq_13, h⟩ := o_bind h
      refine wcX11_332_M_0 C (kX11_foresees hq_13) (by decide) (Nat.le_of_ble_eq_true rfl) dX11_plan_39 42 rfl ?_
      refine g_aload_n C dX11_plan_42 rfl 0 rfl 43 rfl ?_
      obtain ⟨q_14, hq_14, h⟩ := o_bind h
      refine wcX11_335_M_0 C (kX11_lates hq_14) (by decide) (Nat.le_of_ble_eq_true rfl) dX11_plan_43 46 rfl ?_
      obtain ⟨x4_15, ex4_15, h⟩ := o_lt h
      refine g_istore C (lv' := [(4, .int x4_15), (0, .ref (ad 0)), (1, .int x1), (2, .int x2), (3, .int x3)]) ex4_15 dX11_plan_46 (by decide) rfl 48 rfl ?_
      refine g_iload_n C dX11_plan_48 rfl 3 rfl 49 rfl ?_
      refine g_iconst C (v := -1) dX11_plan_49 (by decide) 50 rfl ?_
      obtain ⟨j91, ej91, h⟩ := o_lt h
      have hj91 : ∀ (x1_16 : Int32) (x2_17 : Int32) (σ_18 : ST), j91 x1_16 x2_17 σ_18 = some res → G p l e (rmL 2) s m args below meth c (MQ below (Qi D (tyz cI cJ cB cZ) (wM ad cI cJ cB cZ) A res) args s 0 0 A) D (wM ad cI cJ cB cZ) A 6 σ_18 91 [(0, .ref (ad 0)), (1, .int x1_16), (2, .int x2_17)] [] := by
        intro x1_16 x2_17 σ_18 h
        rw [ej91] at h
        refine g_iload_n C dX11_plan_91 rfl 2 rfl 92 rfl ?_
        refine g_if_le C 107 dX11_plan_92 (by decide) 95 rfl (fun c_19 => ?_) (fun c_19 => ?_)
        · have h := o_pos h c_19
          refine g_iconst C (v := 0) dX11_plan_107 (by decide) 108 rfl ?_
          obtain ⟨x3_20, ex3_20, h⟩ := o_lt h
          refine g_istore_n C (lv' := [(3, .int x3_20), (0, .ref (ad 0)), (1, .int x1_16), (2, .int x2_17)]) ex3_20 dX11_plan_108 rfl (by decide) rfl 109 rfl ?_
          refine g_goto C 34 dX11_plan_109 (by decide) ?_
          exact g_sub C [1, 2, 3, 0] rfl (ih x1_16 x2_17 x3_20 σ_18 h)
        · have h := o_neg h c_19
          refine g_aload_n C dX11_plan_95 rfl 0 rfl 96 rfl ?_
          refine g_iload_n C dX11_plan_96 rfl 1 rfl 97 rfl ?_
          obtain ⟨q_21, hq_21, h⟩ := o_bind h
          refine wcX11_338_M_0 C (kX11_nextRow hq_21) (by decide) (Nat.le_of_ble_eq_true rfl) dX11_plan_97 100 rfl ?_
          refine g_if_eq C 107 dX11_plan_100 (by decide) 103 rfl (fun c_22 => ?_) (fun c_22 => ?_)
          · have h := o_pos h c_22
            refine g_iconst C (v := 0) dX11_plan_107 (by decide) 108 rfl ?_
            obtain ⟨x3_23, ex3_23, h⟩ := o_lt h
            refine g_istore_n C (lv' := [(3, .int x3_23), (0, .ref (ad 0)), (1, .int x1_16), (2, .int x2_17)]) ex3_23 dX11_plan_108 rfl (by decide) rfl 109 rfl ?_
            refine g_goto C 34 dX11_plan_109 (by decide) ?_
            exact g_sub C [1, 2, 3, 0] rfl (ih x1_16 x2_17 x3_23 q_21.2 h)
          · have h := o_neg h c_22
            refine g_iconst C (v := 1) dX11_plan_103 (by decide) 104 rfl ?_
            refine g_goto C 108 dX11_plan_104 (by decide) ?_
            obtain ⟨x3_24, ex3_24, h⟩ := o_lt h
            refine g_istore_n C (lv' := [(3, .int x3_24), (0, .ref (ad 0)), (1, .int x1_16), (2, .int x2_17)]) ex3_24 dX11_plan_108 rfl (by decide) rfl 109 rfl ?_
            refine g_goto C 34 dX11_plan_109 (by decide) ?_
            exact g_sub C [1, 2, 3, 0] rfl (ih x1_16 x2_17 x3_24 q_21.2 h)
      refine g_icmp_eq C 59 dX11_plan_50 (by decide) 53 rfl (fun c_25 => ?_) (fun c_25 => ?_)
      · have h := o_pos h c_25
        refine g_iload C dX11_plan_59 0 rfl 61 rfl ?_
        obtain ⟨x2_26, ex2_26, h⟩ := o_lt h
        refine g_istore_n C (lv' := [(2, .int x2_26), (4, .int x4_15), (0, .ref (ad 0)), (1, .int x1), (3, .int x3)]) ex2_26 dX11_plan_61 rfl (by decide) rfl 62 rfl ?_
        refine g_iconst C (v := 0) dX11_plan_62 (by decide) 63 rfl ?_
        obtain ⟨x5_27, ex5_27, h⟩ := o_lt h
        refine g_istore C (lv' := [(5, .int x5_27), (2, .int x2_26), (4, .int x4_15), (0, .ref (ad 0)), (1, .int x1), (3, .int x3)]) ex5_27 dX11_plan_63 (by decide) rfl 65 rfl ?_
        exact g_sub C [3, 4, 1, 0] rfl (kX11_plan_L65 C hr (fun x1_33 x2_34 σ_35 h => by
            exact g_sub C [0, 1, 2] rfl (hj91 x1_33 x2_34 σ_35 h)) n x1 x2_26 x5_27 q_14.2 h)
      · have h := o_neg h c_25
        refine g_iload C dX11_plan_53 0 rfl 55 rfl ?_
        refine g_iload_n C dX11_plan_55 rfl 3 rfl 56 rfl ?_
        refine g_icmp_ge C 91 dX11_plan_56 (by decide) 59 rfl (fun c_36 => ?_) (fun c_36 => ?_)
        · have h := o_pos h c_36
          exact g_sub C [1, 2, 3] rfl (hj91 x1 x2 q_14.2 h)
        · have h := o_neg h c_36
          refine g_iload C dX11_plan_59 0 rfl 61 rfl ?_
          obtain ⟨x2_37, ex2_37, h⟩ := o_lt h
          refine g_istore_n C (lv' := [(2, .int x2_37), (4, .int x4_15), (0, .ref (ad 0)), (1, .int x1), (3, .int x3)]) ex2_37 dX11_plan_61 rfl (by decide) rfl 62 rfl ?_
          refine g_iconst C (v := 0) dX11_plan_62 (by decide) 63 rfl ?_
          obtain ⟨x5_38, ex5_38, h⟩ := o_lt h
          refine g_istore C (lv' := [(5, .int x5_38), (2, .int x2_37), (4, .int x4_15), (0, .ref (ad 0)), (1, .int x1), (3, .int x3)]) ex5_38 dX11_plan_63 (by decide) rfl 65 rfl ?_
          exact g_sub C [3, 4, 1, 0] rfl (kX11_plan_L65 C hr (fun x1_39 x2_40 σ_41 h => by
              exact g_sub C [0, 1, 2] rfl (hj91 x1_39 x2_40 σ_41 h)) n x1 x2_37 x5_38 q_14.2 h)
set_option maxHeartbeats 4000000 in
set_option maxRecDepth 100000 in
theorem kX11_plan {l : Launch} {D : va_G} {ad : Nat → Nat} {cI cJ cB cZ : ClassId}  {n : Nat}  {σ : ST} {res : Int32 × ST} (h : fX11_plan n σ = some res) : CMi l D (tyz cI cJ cB cZ) (wM ad cI cJ cB cZ) 2 yX11_plan cX11_plan 6 (some .int) [.ref (ad 0)] σ res := by
  refine cmi_body (own := RX11) (lv := [(0, .ref (ad 0))]) (by decide) rfl (wM_addr _ _ _ _ _) (Nat.le_of_ble_eq_true rfl) rfl (fun p e s m args below meth c A C hr => ?_)
  unfold fX11_plan at h
  refine g_aload_n C dX11_plan_0 rfl 0 rfl 1 rfl ?_
  refine wgX11_40_0 C dX11_plan_1 4 rfl ?_
  refine g_aload_n C dX11_plan_4 rfl 0 rfl 5 rfl ?_
  refine wgX11_234_0 C dX11_plan_5 8 rfl ?_
  obtain ⟨c_1, h⟩ := o_chk h
  refine wlM_8 C c_1 dX11_plan_8 9 rfl ?_
  obtain ⟨x1_2, ex1_2, h⟩ := o_lt h
  refine g_istore_n C (lv' := [(1, .int x1_2), (0, .ref (ad 0))]) ex1_2 dX11_plan_9 rfl (by decide) rfl 10 rfl ?_
  refine g_iconst C (v := 0) dX11_plan_10 (by decide) 11 rfl ?_
  obtain ⟨x2_3, ex2_3, h⟩ := o_lt h
  refine g_istore_n C (lv' := [(2, .int x2_3), (1, .int x1_2), (0, .ref (ad 0))]) ex2_3 dX11_plan_11 rfl (by decide) rfl 12 rfl ?_
  exact g_sub C [2, 1, 0] rfl (kX11_plan_L12 C hr (fun x1_8 σ_9 h => by
      refine g_iconst C (v := -1) dX11_plan_30 (by decide) 31 rfl ?_
      obtain ⟨x2_10, ex2_10, h⟩ := o_lt h
      refine g_istore_n C (lv' := [(2, .int x2_10), (0, .ref (ad 0)), (1, .int x1_8)]) ex2_10 dX11_plan_31 rfl (by decide) rfl 32 rfl ?_
      refine g_iconst C (v := 1) dX11_plan_32 (by decide) 33 rfl ?_
      obtain ⟨x3_11, ex3_11, h⟩ := o_lt h
      refine g_istore_n C (lv' := [(3, .int x3_11), (2, .int x2_10), (0, .ref (ad 0)), (1, .int x1_8)]) ex3_11 dX11_plan_33 rfl (by decide) rfl 34 rfl ?_
      exact g_sub C [2, 3, 1, 0] rfl (kX11_plan_L34 C hr  n x1_8 x2_10 x3_11 σ_9 h)) n x1_2 x2_3 σ h)
end WK
/-! X11_order public int order(int); -/
def fX11_order (x1 : Int32) (σ : ST) : Option (Int32 × ST) :=
  (if x1 < 0 then (some ((-1 : Int32), σ)) else (if ix (gI σ 11) 2 then (if (ldA σ 8 (gI σ 11)) ≤ x1 then (some ((-1 : Int32), σ)) else (if ix x1 7 then (some (ldA σ 34 x1, σ)) else none)) else none))
section WK
variable {p : Program} {l : Launch} {e : Env} {R : Room} {s : State} {m : MethodId} {args : Array Value} {below : List Frame} {meth : Method} {c : Code} {Q : State → Prop}
variable {D : va_G} {ad : Nat → Nat} {cI cJ cB cZ : ClassId} {A : Nat → Prop} {cc : ByteArray} {nL lev : Nat}
variable {σ : ST} {pc : Nat} {lv : List (Nat × Value)} {st : List Value}
set_option maxHeartbeats 4000000 in
set_option maxRecDepth 100000 in
theorem kX11_order {l : Launch} {D : va_G} {ad : Nat → Nat} {cI cJ cB cZ : ClassId}  {x1 : Int32} {σ : ST} {res : Int32 × ST} (h : fX11_order x1 σ = some res) : CMi l D (tyz cI cJ cB cZ) (wM ad cI cJ cB cZ) 0 yX11_order cX11_order 2 (some .int) [.ref (ad 0), .int x1] σ res := by
  refine cmi_body (own := RX11) (lv := [(0, .ref (ad 0)), (1, .int x1)]) (by decide) rfl (wM_addr _ _ _ _ _) (Nat.le_of_ble_eq_true rfl) rfl (fun p e s m args below meth c A C hr => ?_)
  unfold fX11_order at h
  refine g_iload_n C dX11_order_0 rfl 1 rfl 1 rfl ?_
  refine g_if_lt C 26 dX11_order_1 (by decide) 4 rfl (fun c_1 => ?_) (fun c_1 => ?_)
  · have h := o_pos h c_1
    refine g_iconst C (v := -1) dX11_order_26 (by decide) 27 rfl ?_
    exact g_iret C hr dX11_order_27 h
  · have h := o_neg h c_1
    refine g_iload_n C dX11_order_4 rfl 1 rfl 5 rfl ?_
    refine g_aload_n C dX11_order_5 rfl 0 rfl 6 rfl ?_
    refine wgX11_40_0 C dX11_order_6 9 rfl ?_
    refine g_aload_n C dX11_order_9 rfl 0 rfl 10 rfl ?_
    refine wgX11_234_0 C dX11_order_10 13 rfl ?_
    obtain ⟨c_2, h⟩ := o_chk h
    refine wlM_8 C c_2 dX11_order_13 14 rfl ?_
    refine g_icmp_ge C 26 dX11_order_14 (by decide) 17 rfl (fun c_3 => ?_) (fun c_3 => ?_)
    · have h := o_pos h c_3
      refine g_iconst C (v := -1) dX11_order_26 (by decide) 27 rfl ?_
      exact g_iret C hr dX11_order_27 h
    · have h := o_neg h c_3
      refine g_aload_n C dX11_order_17 rfl 0 rfl 18 rfl ?_
      refine wgX11_119_0 C dX11_order_18 21 rfl ?_
      refine g_iload_n C dX11_order_21 rfl 1 rfl 22 rfl ?_
      obtain ⟨c_4, h⟩ := o_chk h
      refine wlM_34 C c_4 dX11_order_22 23 rfl ?_
      refine g_goto C 27 dX11_order_23 (by decide) ?_
      exact g_iret C hr dX11_order_27 h
end WK
/-! X11_foreseen public int foreseen(int); -/
def fX11_foreseen_L12 (k36 : Int32 → ST → Option (Int32 × ST)) : Nat → Int32 → Int32 → ST → Option (Int32 × ST)
  | 0, _, _, _ => none
  | n + 1, x1, x2, σ => (if ((7 : Int32)) ≤ x2 then (k36 x1 σ) else (if ix x2 7 then (if ix x2 7 then (lt (stA σ 44 x2 (ldA σ 34 x2)) (fun σ_7 => (lt (x2 + 1) (fun x2_8 => (fX11_foreseen_L12 k36 n x1 x2_8 σ_7))))) else none) else none))
def fX11_foreseen (n : Nat) (x1 : Int32) (σ : ST) : Option (Int32 × ST) :=
  (Option.bind (fX11_isStep x1 σ) (fun q_1 => (if q_1.1 = 0 then (some ((-1 : Int32), q_1.2)) else (lt ((0 : Int32)) (fun x2_3 => (fX11_foreseen_L12 (fun (x1_9 : Int32) (σ_10 : ST) => (Option.bind (fX11_foresees n σ_10) (fun q_11 => (if ix x1_9 7 then (some (ldA q_11 45 x1_9, q_11)) else none)))) n x1 x2_3 q_1.2))))))
section WK
variable {p : Program} {l : Launch} {e : Env} {R : Room} {s : State} {m : MethodId} {args : Array Value} {below : List Frame} {meth : Method} {c : Code} {Q : State → Prop}
variable {D : va_G} {ad : Nat → Nat} {cI cJ cB cZ : ClassId} {A : Nat → Prop} {cc : ByteArray} {nL lev : Nat}
variable {σ : ST} {pc : Nat} {lv : List (Nat × Value)} {st : List Value}
set_option maxHeartbeats 4000000 in
set_option maxRecDepth 100000 in
theorem kX11_foreseen_L12 (C : Ctx p l e (rmL 2) s m args below meth c D (tyz cI cJ cB cZ) (wM ad cI cJ cB cZ) A cX11_foreseen 3 2 RX11) (hr : meth.sig.returnType = some .int) {res : Int32 × ST} {k36 : Int32 → ST → Option (Int32 × ST)} (hk36 : ∀ (x1 : Int32) (σ : ST), k36 x1 σ = some res → G p l e (rmL 2) s m args below meth c (MQ below (Qi D (tyz cI cJ cB cZ) (wM ad cI cJ cB cZ) A res) args s 0 0 A) D (wM ad cI cJ cB cZ) A 3 σ 36 [(0, .ref (ad 0)), (1, .int x1)] []) : ∀ (n : Nat) (x1 : Int32) (x2 : Int32) (σ : ST), fX11_foreseen_L12 k36 n x1 x2 σ = some res → G p l e (rmL 2) s m args below meth c (MQ below (Qi D (tyz cI cJ cB cZ) (wM ad cI cJ cB cZ) A res) args s 0 0 A) D (wM ad cI cJ cB cZ) A 3 σ 12 [(0, .ref (ad 0)), (1, .int x1), (2, .int x2)] [] := by
  intro n
  induction n with
  | zero => intro x1 x2 σ h; have h : none = some res := h; cases h
  | succ n ih =>
    intro x1 x2 σ h
    rw [fX11_foreseen_L12] at h
    refine g_iload_n C dX11_foreseen_12 rfl 2 rfl 13 rfl ?_
    refine g_bipush C (v := 7) dX11_foreseen_13 (by decide) 15 rfl ?_
    refine g_icmp_ge C 36 dX11_foreseen_15 (by decide) 18 rfl (fun c_4 => ?_) (fun c_4 => ?_)
    · have h := o_pos h c_4
      exact g_sub C [0, 1] rfl (hk36 x1 σ h)
    · have h := o_neg h c_4
      refine g_aload_n C dX11_foreseen_18 rfl 0 rfl 19 rfl ?_
      refine wgX11_149_0 C dX11_foreseen_19 22 rfl ?_
      refine g_iload_n C dX11_foreseen_22 rfl 2 rfl 23 rfl ?_
      refine g_aload_n C dX11_foreseen_23 rfl 0 rfl 24 rfl ?_
      refine wgX11_119_0 C dX11_foreseen_24 27 rfl ?_
      refine g_iload_n C dX11_foreseen_27 rfl 2 rfl 28 rfl ?_
      obtain ⟨c_5, h⟩ := o_chk h
      refine wlM_34 C c_5 dX11_foreseen_28 29 rfl ?_
      obtain ⟨c_6, h⟩ := o_chk h
      obtain ⟨σ_7, eσ_7, h⟩ := o_lt h
      refine wtM_44 C eσ_7 c_6 dX11_foreseen_29 30 rfl ?_
      obtain ⟨x2_8, ex2_8, h⟩ := o_lt h
      refine g_iinc C (lv' := [(2, .int x2_8), (0, .ref (ad 0)), (1, .int x1)]) ex2_8 dX11_foreseen_30 2 rfl (by decide) (by decide) rfl 33 rfl ?_
      refine g_goto C 12 dX11_foreseen_33 (by decide) ?_
      exact g_sub C [1, 2, 0] rfl (ih x1 x2_8 σ_7 h)
set_option maxHeartbeats 4000000 in
set_option maxRecDepth 100000 in
theorem kX11_foreseen {l : Launch} {D : va_G} {ad : Nat → Nat} {cI cJ cB cZ : ClassId}  {n : Nat} {x1 : Int32} {σ : ST} {res : Int32 × ST} (h : fX11_foreseen n x1 σ = some res) : CMi l D (tyz cI cJ cB cZ) (wM ad cI cJ cB cZ) 2 yX11_foreseen cX11_foreseen 3 (some .int) [.ref (ad 0), .int x1] σ res := by
  refine cmi_body (own := RX11) (lv := [(0, .ref (ad 0)), (1, .int x1)]) (by decide) rfl (wM_addr _ _ _ _ _) (Nat.le_of_ble_eq_true rfl) rfl (fun p e s m args below meth c A C hr => ?_)
  unfold fX11_foreseen at h
  refine g_aload_n C dX11_foreseen_0 rfl 0 rfl 1 rfl ?_
  refine g_iload_n C dX11_foreseen_1 rfl 1 rfl 2 rfl ?_
  obtain ⟨q_1, hq_1, h⟩ := o_bind h
  refine wcX11_301_M_0 C (kX11_isStep hq_1) (by decide) (Nat.le_of_ble_eq_true rfl) dX11_foreseen_2 5 rfl ?_
  refine g_if_ne C 10 dX11_foreseen_5 (by decide) 8 rfl (fun c_2 => ?_) (fun c_2 => ?_)
  · have h := o_neg h c_2
    refine g_iconst C (v := 0) dX11_foreseen_10 (by decide) 11 rfl ?_
    obtain ⟨x2_3, ex2_3, h⟩ := o_lt h
    refine g_istore_n C (lv' := [(2, .int x2_3), (0, .ref (ad 0)), (1, .int x1)]) ex2_3 dX11_foreseen_11 rfl (by decide) rfl 12 rfl ?_
    exact g_sub C [1, 2, 0] rfl (kX11_foreseen_L12 C hr (fun x1_9 σ_10 h => by
        refine g_aload_n C dX11_foreseen_36 rfl 0 rfl 37 rfl ?_
        obtain ⟨q_11, hq_11, h⟩ := o_bind h
        refine wcX11_332_M_0 C (kX11_foresees hq_11) (by decide) (Nat.le_of_ble_eq_true rfl) dX11_foreseen_37 40 rfl ?_
        refine g_aload_n C dX11_foreseen_40 rfl 0 rfl 41 rfl ?_
        refine wgX11_152_0 C dX11_foreseen_41 44 rfl ?_
        refine g_iload_n C dX11_foreseen_44 rfl 1 rfl 45 rfl ?_
        obtain ⟨c_12, h⟩ := o_chk h
        refine wlM_45 C c_12 dX11_foreseen_45 46 rfl ?_
        exact g_iret C hr dX11_foreseen_46 h) n x1 x2_3 q_1.2 h)
  · have h := o_pos h c_2
    refine g_iconst C (v := -1) dX11_foreseen_8 (by decide) 9 rfl ?_
    exact g_iret C hr dX11_foreseen_9 h
end WK
/-! X11_sure public int sure(int); -/
def fX11_sure_L120 (k169 : Int32 → Int32 → Int32 → Int32 → ST → Option (Int32 × ST)) : Nat → Int32 → Int32 → Int32 → Int32 → Int32 → ST → Option (Int32 × ST)
  | 0, _, _, _, _, _, _ => none
  | n + 1, x1, x2, x3, x4, x5, σ => (if ((6 : Int32)) ≤ x5 then (k169 x1 x2 x3 x4 σ) else (if ix x3 14 then (if (((ldA σ 16 x3) >>> (x5 &&& 31)) &&& ((1 : Int32))) = ((1 : Int32)) then (if ix x5 6 then (if (ldA σ 48 x5) ≤ x4 then (lt (x5 + 1) (fun x5_21 => (fX11_sure_L120 k169 n x1 x2 x3 x4 x5_21 σ))) else (if ix x5 6 then (lt (ldA σ 48 x5) (fun x4_23 => (lt (x5 + 1) (fun x5_24 => (fX11_sure_L120 k169 n x1 x2 x3 x4_23 x5_24 σ))))) else none)) else none) else (lt (x5 + 1) (fun x5_18 => (fX11_sure_L120 k169 n x1 x2 x3 x4 x5_18 σ)))) else none))
def fX11_sure_L172 (k235 : Int32 → Int32 → Int32 → Int32 → ST → Option (Int32 × ST)) : Nat → Int32 → Int32 → Int32 → Int32 → Int32 → ST → Option (Int32 × ST)
  | 0, _, _, _, _, _, _ => none
  | n + 1, x1, x2, x3, x4, x5, σ => (if x2 ≤ x5 then (k235 x1 x2 x3 x4 σ) else (if ix x3 14 then (if (((ldA σ 17 x3) >>> (x5 &&& 31)) &&& ((1 : Int32))) = ((1 : Int32)) then (if ix x5 7 then (if (ldA σ 35 x5) = ((-1 : Int32)) then (if ix x5 7 then (if ((ldA σ 45 x5) + ((1 : Int32))) ≤ x4 then (lt (x5 + 1) (fun x5_40 => (fX11_sure_L172 k235 n x1 x2 x3 x4 x5_40 σ))) else (if ix x5 7 then (lt ((ldA σ 45 x5) + ((1 : Int32))) (fun x4_42 => (lt (x5 + 1) (fun x5_43 => (fX11_sure_L172 k235 n x1 x2 x3 x4_42 x5_43 σ))))) else none)) else none) else (lt (x5 + 1) (fun x5_37 => (fX11_sure_L172 k235 n x1 x2 x3 x4 x5_37 σ)))) else none) else (lt (x5 + 1) (fun x5_34 => (fX11_sure_L172 k235 n x1 x2 x3 x4 x5_34 σ)))) else none))
def fX11_sure_L34 (k258 : Int32 → ST → Option (Int32 × ST)) : Nat → Int32 → Int32 → ST → Option (Int32 × ST)
  | 0, _, _, _ => none
  | n + 1, x1, x2, σ => (if x1 < x2 then (k258 x1 σ) else (lt ((((7 : Int32)) * (gI σ 11)) + x2) (fun x3_8 => (if ix x2 7 then (if (ldA σ 35 x2) = ((-1 : Int32)) then (Option.bind (fX11_isAtHost n x2 σ) (fun q_11 => (if q_11.1 = 0 then (lt ((gI q_11.2 18) + ((1 : Int32))) (fun x4_13 => (lt ((0 : Int32)) (fun x5_14 => (fX11_sure_L120 (fun (x1_25 : Int32) (x2_26 : Int32) (x3_27 : Int32) (x4_28 : Int32) (σ_29 : ST) => (lt ((0 : Int32)) (fun x5_30 => (fX11_sure_L172 (fun (x1_44 : Int32) (x2_45 : Int32) (x3_46 : Int32) (x4_47 : Int32) (σ_48 : ST) => (if ix x3_46 14 then (if ix x2_45 7 then (lt (stA σ_48 45 x2_45 ((x4_47 + (ldA σ_48 11 x3_46)) - ((1 : Int32)))) (fun σ_51 => (lt (x2_45 + 1) (fun x2_52 => (fX11_sure_L34 k258 n x1_44 x2_52 σ_51))))) else none) else none)) n x1_25 x2_26 x3_27 x4_28 x5_30 σ_29)))) n x1 x2 x3_8 x4_13 x5_14 q_11.2))))) else (if ix x3_8 14 then (if ix x2 7 then (if ix x2 7 then (lt (stA q_11.2 45 x2 (((gI q_11.2 18) + (ldA q_11.2 11 x3_8)) - (ldA q_11.2 37 x2))) (fun σ_56 => (lt (x2 + 1) (fun x2_57 => (fX11_sure_L34 k258 n x1 x2_57 σ_56))))) else none) else none) else none)))) else (if ix x2 7 then (if ix x2 7 then (lt (stA σ 45 x2 (ldA σ 35 x2)) (fun σ_60 => (lt (x2 + 1) (fun x2_61 => (fX11_sure_L34 k258 n x1 x2_61 σ_60))))) else none) else none)) else none))))
def fX11_sure (n : Nat) (x1 : Int32) (σ : ST) : Option (Int32 × ST) :=
  (Option.bind (fX11_isStep x1 σ) (fun q_1 => (if q_1.1 = 0 then (some ((-1 : Int32), q_1.2)) else (if ix ((((7 : Int32)) * (gI q_1.2 11)) + x1) 14 then (if (ldA q_1.2 10 ((((7 : Int32)) * (gI q_1.2 11)) + x1)) = 0 then (some ((-1 : Int32), q_1.2)) else (Option.bind (fX11_lands n ((0 : Int32)) q_1.2) (fun q_5 => (lt ((0 : Int32)) (fun x2_6 => (fX11_sure_L34 (fun (x1_62 : Int32) (σ_63 : ST) => (if ix x1_62 7 then (if ix ((((7 : Int32)) * (gI σ_63 11)) + x1_62) 14 then (if (ldA σ_63 45 x1_62) ≤ (ldA σ_63 12 ((((7 : Int32)) * (gI σ_63 11)) + x1_62)) then (some ((0 : Int32), σ_63)) else (some ((1 : Int32), σ_63))) else none) else none)) n x1 x2_6 q_5)))))) else none))))
section WK
variable {p : Program} {l : Launch} {e : Env} {R : Room} {s : State} {m : MethodId} {args : Array Value} {below : List Frame} {meth : Method} {c : Code} {Q : State → Prop}
variable {D : va_G} {ad : Nat → Nat} {cI cJ cB cZ : ClassId} {A : Nat → Prop} {cc : ByteArray} {nL lev : Nat}
variable {σ : ST} {pc : Nat} {lv : List (Nat × Value)} {st : List Value}
set_option maxHeartbeats 4000000 in
set_option maxRecDepth 100000 in
theorem kX11_sure_L120 (C : Ctx p l e (rmL 1) s m args below meth c D (tyz cI cJ cB cZ) (wM ad cI cJ cB cZ) A cX11_sure 6 1 RX11) (hr : meth.sig.returnType = some .int) {res : Int32 × ST} {k169 : Int32 → Int32 → Int32 → Int32 → ST → Option (Int32 × ST)} (hk169 : ∀ (x1 : Int32) (x2 : Int32) (x3 : Int32) (x4 : Int32) (σ : ST), k169 x1 x2 x3 x4 σ = some res → G p l e (rmL 1) s m args below meth c (MQ below (Qi D (tyz cI cJ cB cZ) (wM ad cI cJ cB cZ) A res) args s 0 0 A) D (wM ad cI cJ cB cZ) A 6 σ 169 [(0, .ref (ad 0)), (1, .int x1), (2, .int x2), (3, .int x3), (4, .int x4)] []) : ∀ (n : Nat) (x1 : Int32) (x2 : Int32) (x3 : Int32) (x4 : Int32) (x5 : Int32) (σ : ST), fX11_sure_L120 k169 n x1 x2 x3 x4 x5 σ = some res → G p l e (rmL 1) s m args below meth c (MQ below (Qi D (tyz cI cJ cB cZ) (wM ad cI cJ cB cZ) A res) args s 0 0 A) D (wM ad cI cJ cB cZ) A 6 σ 120 [(0, .ref (ad 0)), (1, .int x1), (2, .int x2), (3, .int x3), (4, .int x4), (5, .int x5)] [] := by
  intro n
  induction n with
  | zero => intro x1 x2 x3 x4 x5 σ h; have h : none = some res := h; cases h
  | succ n ih =>
    intro x1 x2 x3 x4 x5 σ h
    rw [fX11_sure_L120] at h
    refine g_iload C dX11_sure_120 5 rfl 122 rfl ?_
    refine g_bipush C (v := 6) dX11_sure_122 (by decide) 124 rfl ?_
    refine g_icmp_ge C 169 dX11_sure_124 (by decide) 127 rfl (fun c_15 => ?_) (fun c_15 => ?_)
    · have h := o_pos h c_15
      exact g_sub C [0, 1, 2, 3, 4] rfl (hk169 x1 x2 x3 x4 σ h)
    · have h := o_neg h c_15
      refine g_aload_n C dX11_sure_127 rfl 0 rfl 128 rfl ?_
      refine wgX11_65_0 C dX11_sure_128 131 rfl ?_
      refine g_iload_n C dX11_sure_131 rfl 3 rfl 132 rfl ?_
      obtain ⟨c_16, h⟩ := o_chk h
      refine wlM_16 C c_16 dX11_sure_132 133 rfl ?_
      refine g_iload C dX11_sure_133 5 rfl 135 rfl ?_
      refine g_ishr C dX11_sure_135 136 rfl ?_
      refine g_iconst C (v := 1) dX11_sure_136 (by decide) 137 rfl ?_
      refine g_iand C dX11_sure_137 138 rfl ?_
      refine g_iconst C (v := 1) dX11_sure_138 (by decide) 139 rfl ?_
      refine g_icmp_ne C 163 dX11_sure_139 (by decide) 142 rfl (fun c_17 => ?_) (fun c_17 => ?_)
      · have h := o_neg h c_17
        obtain ⟨x5_18, ex5_18, h⟩ := o_lt h
        refine g_iinc C (lv' := [(5, .int x5_18), (0, .ref (ad 0)), (1, .int x1), (2, .int x2), (3, .int x3), (4, .int x4)]) ex5_18 dX11_sure_163 5 rfl (by decide) (by decide) rfl 166 rfl ?_
        refine g_goto C 120 dX11_sure_166 (by decide) ?_
        exact g_sub C [1, 2, 3, 4, 5, 0] rfl (ih x1 x2 x3 x4 x5_18 σ h)
      · have h := o_pos h c_17
        refine g_aload_n C dX11_sure_142 rfl 0 rfl 143 rfl ?_
        refine wgX11_161_0 C dX11_sure_143 146 rfl ?_
        refine g_iload C dX11_sure_146 5 rfl 148 rfl ?_
        obtain ⟨c_19, h⟩ := o_chk h
        refine wlM_48 C c_19 dX11_sure_148 149 rfl ?_
        refine g_iload C dX11_sure_149 4 rfl 151 rfl ?_
        refine g_icmp_le C 163 dX11_sure_151 (by decide) 154 rfl (fun c_20 => ?_) (fun c_20 => ?_)
        · have h := o_pos h c_20
          obtain ⟨x5_21, ex5_21, h⟩ := o_lt h
          refine g_iinc C (lv' := [(5, .int x5_21), (0, .ref (ad 0)), (1, .int x1), (2, .int x2), (3, .int x3), (4, .int x4)]) ex5_21 dX11_sure_163 5 rfl (by decide) (by decide) rfl 166 rfl ?_
          refine g_goto C 120 dX11_sure_166 (by decide) ?_
          exact g_sub C [1, 2, 3, 4, 5, 0] rfl (ih x1 x2 x3 x4 x5_21 σ h)
        · have h := o_neg h c_20
          refine g_aload_n C dX11_sure_154 rfl 0 rfl 155 rfl ?_
          refine wgX11_161_0 C dX11_sure_155 158 rfl ?_
          refine g_iload C dX11_sure_158 5 rfl 160 rfl ?_
          obtain ⟨c_22, h⟩ := o_chk h
          refine wlM_48 C c_22 dX11_sure_160 161 rfl ?_
          obtain ⟨x4_23, ex4_23, h⟩ := o_lt h
          refine g_istore C (lv' := [(4, .int x4_23), (0, .ref (ad 0)), (1, .int x1), (2, .int x2), (3, .int x3), (5, .int x5)]) ex4_23 dX11_sure_161 (by decide) rfl 163 rfl ?_
          obtain ⟨x5_24, ex5_24, h⟩ := o_lt h
          refine g_iinc C (lv' := [(5, .int x5_24), (4, .int x4_23), (0, .ref (ad 0)), (1, .int x1), (2, .int x2), (3, .int x3)]) ex5_24 dX11_sure_163 5 rfl (by decide) (by decide) rfl 166 rfl ?_
          refine g_goto C 120 dX11_sure_166 (by decide) ?_
          exact g_sub C [2, 3, 4, 5, 1, 0] rfl (ih x1 x2 x3 x4_23 x5_24 σ h)
set_option maxHeartbeats 4000000 in
set_option maxRecDepth 100000 in
theorem kX11_sure_L172 (C : Ctx p l e (rmL 1) s m args below meth c D (tyz cI cJ cB cZ) (wM ad cI cJ cB cZ) A cX11_sure 6 1 RX11) (hr : meth.sig.returnType = some .int) {res : Int32 × ST} {k235 : Int32 → Int32 → Int32 → Int32 → ST → Option (Int32 × ST)} (hk235 : ∀ (x1 : Int32) (x2 : Int32) (x3 : Int32) (x4 : Int32) (σ : ST), k235 x1 x2 x3 x4 σ = some res → G p l e (rmL 1) s m args below meth c (MQ below (Qi D (tyz cI cJ cB cZ) (wM ad cI cJ cB cZ) A res) args s 0 0 A) D (wM ad cI cJ cB cZ) A 6 σ 235 [(0, .ref (ad 0)), (1, .int x1), (2, .int x2), (3, .int x3), (4, .int x4)] []) : ∀ (n : Nat) (x1 : Int32) (x2 : Int32) (x3 : Int32) (x4 : Int32) (x5 : Int32) (σ : ST), fX11_sure_L172 k235 n x1 x2 x3 x4 x5 σ = some res → G p l e (rmL 1) s m args below meth c (MQ below (Qi D (tyz cI cJ cB cZ) (wM ad cI cJ cB cZ) A res) args s 0 0 A) D (wM ad cI cJ cB cZ) A 6 σ 172 [(0, .ref (ad 0)), (1, .int x1), (2, .int x2), (3, .int x3), (4, .int x4), (5, .int x5)] [] := by
  intro n
  induction n with
  | zero => intro x1 x2 x3 x4 x5 σ h; have h : none = some res := h; cases h
  | succ n ih =>
    intro x1 x2 x3 x4 x5 σ h
    rw [fX11_sure_L172] at h
    refine g_iload C dX11_sure_172 5 rfl 174 rfl ?_
    refine g_iload_n C dX11_sure_174 rfl 2 rfl 175 rfl ?_
    refine g_icmp_ge C 235 dX11_sure_175 (by decide) 178 rfl (fun c_31 => ?_) (fun c_31 => ?_)
    · have h := o_pos h c_31
      exact g_sub C [0, 1, 2, 3, 4] rfl (hk235 x1 x2 x3 x4 σ h)
    · have h := o_neg h c_31
      refine g_aload_n C dX11_sure_178 rfl 0 rfl 179 rfl ?_
      refine wgX11_68_0 C dX11_sure_179 182 rfl ?_
      refine g_iload_n C dX11_sure_182 rfl 3 rfl 183 rfl ?_
      obtain ⟨c_32, h⟩ := o_chk h
      refine wlM_17 C c_32 dX11_sure_183 184 rfl ?_
      refine g_iload C dX11_sure_184 5 rfl 186 rfl ?_
      refine g_ishr C dX11_sure_186 187 rfl ?_
      refine g_iconst C (v := 1) dX11_sure_187 (by decide) 188 rfl ?_
      refine g_iand C dX11_sure_188 189 rfl ?_
      refine g_iconst C (v := 1) dX11_sure_189 (by decide) 190 rfl ?_
      refine g_icmp_ne C 229 dX11_sure_190 (by decide) 193 rfl (fun c_33 => ?_) (fun c_33 => ?_)
      · have h := o_neg h c_33
        obtain ⟨x5_34, ex5_34, h⟩ := o_lt h
        refine g_iinc C (lv' := [(5, .int x5_34), (0, .ref (ad 0)), (1, .int x1), (2, .int x2), (3, .int x3), (4, .int x4)]) ex5_34 dX11_sure_229 5 rfl (by decide) (by decide) rfl 232 rfl ?_
        refine g_goto C 172 dX11_sure_232 (by decide) ?_
        exact g_sub C [1, 2, 3, 4, 5, 0] rfl (ih x1 x2 x3 x4 x5_34 σ h)
      · have h := o_pos h c_33
        refine g_aload_n C dX11_sure_193 rfl 0 rfl 194 rfl ?_
        refine wgX11_122_0 C dX11_sure_194 197 rfl ?_
        refine g_iload C dX11_sure_197 5 rfl 199 rfl ?_
        obtain ⟨c_35, h⟩ := o_chk h
        refine wlM_35 C c_35 dX11_sure_199 200 rfl ?_
        refine g_iconst C (v := -1) dX11_sure_200 (by decide) 201 rfl ?_
        refine g_icmp_ne C 229 dX11_sure_201 (by decide) 204 rfl (fun c_36 => ?_) (fun c_36 => ?_)
        · have h := o_neg h c_36
          obtain ⟨x5_37, ex5_37, h⟩ := o_lt h
          refine g_iinc C (lv' := [(5, .int x5_37), (0, .ref (ad 0)), (1, .int x1), (2, .int x2), (3, .int x3), (4, .int x4)]) ex5_37 dX11_sure_229 5 rfl (by decide) (by decide) rfl 232 rfl ?_
          refine g_goto C 172 dX11_sure_232 (by decide) ?_
          exact g_sub C [1, 2, 3, 4, 5, 0] rfl (ih x1 x2 x3 x4 x5_37 σ h)
        · have h := o_pos h c_36
          refine g_aload_n C dX11_sure_204 rfl 0 rfl 205 rfl ?_
          refine wgX11_152_0 C dX11_sure_205 208 rfl ?_
          refine g_iload C dX11_sure_208 5 rfl 210 rfl ?_
          obtain ⟨c_38, h⟩ := o_chk h
          refine wlM_45 C c_38 dX11_sure_210 211 rfl ?_
          refine g_iconst C (v := 1) dX11_sure_211 (by decide) 212 rfl ?_
          refine g_iadd C dX11_sure_212 213 rfl ?_
          refine g_iload C dX11_sure_213 4 rfl 215 rfl ?_
          refine g_icmp_le C 229 dX11_sure_215 (by decide) 218 rfl (fun c_39 => ?_) (fun c_39 => ?_)
          · have h := o_pos h c_39
            obtain ⟨x5_40, ex5_40, h⟩ := o_lt h
            refine g_iinc C (lv' := [(5, .int x5_40), (0, .ref (ad 0)), (1, .int x1), (2, .int x2), (3, .int x3), (4, .int x4)]) ex5_40 dX11_sure_229 5 rfl (by decide) (by decide) rfl 232 rfl ?_
            refine g_goto C 172 dX11_sure_232 (by decide) ?_
            exact g_sub C [1, 2, 3, 4, 5, 0] rfl (ih x1 x2 x3 x4 x5_40 σ h)
          · have h := o_neg h c_39
            refine g_aload_n C dX11_sure_218 rfl 0 rfl 219 rfl ?_
            refine wgX11_152_0 C dX11_sure_219 222 rfl ?_
            refine g_iload C dX11_sure_222 5 rfl 224 rfl ?_
            obtain ⟨c_41, h⟩ := o_chk h
            refine wlM_45 C c_41 dX11_sure_224 225 rfl ?_
            refine g_iconst C (v := 1) dX11_sure_225 (by decide) 226 rfl ?_
            refine g_iadd C dX11_sure_226 227 rfl ?_
            obtain ⟨x4_42, ex4_42, h⟩ := o_lt h
            refine g_istore C (lv' := [(4, .int x4_42), (0, .ref (ad 0)), (1, .int x1), (2, .int x2), (3, .int x3), (5, .int x5)]) ex4_42 dX11_sure_227 (by decide) rfl 229 rfl ?_
            obtain ⟨x5_43, ex5_43, h⟩ := o_lt h
            refine g_iinc C (lv' := [(5, .int x5_43), (4, .int x4_42), (0, .ref (ad 0)), (1, .int x1), (2, .int x2), (3, .int x3)]) ex5_43 dX11_sure_229 5 rfl (by decide) (by decide) rfl 232 rfl ?_
            refine g_goto C 172 dX11_sure_232 (by decide) ?_
            exact g_sub C [2, 3, 4, 5, 1, 0] rfl (ih x1 x2 x3 x4_42 x5_43 σ h)
set_option maxHeartbeats 4000000 in
set_option maxRecDepth 100000 in
theorem kX11_sure_L34 (C : Ctx p l e (rmL 1) s m args below meth c D (tyz cI cJ cB cZ) (wM ad cI cJ cB cZ) A cX11_sure 6 1 RX11) (hr : meth.sig.returnType = some .int) {res : Int32 × ST} {k258 : Int32 → ST → Option (Int32 × ST)} (hk258 : ∀ (x1 : Int32) (σ : ST), k258 x1 σ = some res → G p l e (rmL 1) s m args below meth c (MQ below (Qi D (tyz cI cJ cB cZ) (wM ad cI cJ cB cZ) A res) args s 0 0 A) D (wM ad cI cJ cB cZ) A 6 σ 258 [(0, .ref (ad 0)), (1, .int x1)] []) : ∀ (n : Nat) (x1 : Int32) (x2 : Int32) (σ : ST), fX11_sure_L34 k258 n x1 x2 σ = some res → G p l e (rmL 1) s m args below meth c (MQ below (Qi D (tyz cI cJ cB cZ) (wM ad cI cJ cB cZ) A res) args s 0 0 A) D (wM ad cI cJ cB cZ) A 6 σ 34 [(0, .ref (ad 0)), (1, .int x1), (2, .int x2)] [] := by
  intro n
  induction n with
  | zero => intro x1 x2 σ h; have h : none = some res := h; cases h
  | succ n ih =>
    intro x1 x2 σ h
    rw [fX11_sure_L34] at h
    refine g_iload_n C dX11_sure_34 rfl 2 rfl 35 rfl ?_
    refine g_iload_n C dX11_sure_35 rfl 1 rfl 36 rfl ?_
    refine g_icmp_gt C 258 dX11_sure_36 (by decide) 39 rfl (fun c_7 => ?_) (fun c_7 => ?_)
    · have h := o_pos h c_7
      exact g_sub C [0, 1] rfl (hk258 x1 σ h)
    · have h := o_neg h c_7
      refine g_bipush C (v := 7) dX11_sure_39 (by decide) 41 rfl ?_
      refine g_aload_n C dX11_sure_41 rfl 0 rfl 42 rfl ?_
      refine wgX11_234_0 C dX11_sure_42 45 rfl ?_
      refine g_imul C dX11_sure_45 46 rfl ?_
      refine g_iload_n C dX11_sure_46 rfl 2 rfl 47 rfl ?_
      refine g_iadd C dX11_sure_47 48 rfl ?_
      obtain ⟨x3_8, ex3_8, h⟩ := o_lt h
      refine g_istore_n C (lv' := [(3, .int x3_8), (0, .ref (ad 0)), (1, .int x1), (2, .int x2)]) ex3_8 dX11_sure_48 rfl (by decide) rfl 49 rfl ?_
      refine g_aload_n C dX11_sure_49 rfl 1 rfl 50 rfl ?_
      refine wgX11_122_0 C dX11_sure_50 53 rfl ?_
      refine g_iload_n C dX11_sure_53 rfl 3 rfl 54 rfl ?_
      obtain ⟨c_9, h⟩ := o_chk h
      refine wlM_35 C c_9 dX11_sure_54 55 rfl ?_
      refine g_iconst C (v := -1) dX11_sure_55 (by decide) 56 rfl ?_
      refine g_icmp_eq C 74 dX11_sure_56 (by decide) 59 rfl (fun c_10 => ?_) (fun c_10 => ?_)
      · have h := o_pos h c_10
        refine g_aload_n C dX11_sure_74 rfl 1 rfl 75 rfl ?_
        refine g_iload_n C dX11_sure_75 rfl 3 rfl 76 rfl ?_
        obtain ⟨q_11, hq_11, h⟩ := o_bind h
        refine wcX11_311_M_0 C (kX11_isAtHost hq_11) (by decide) (Nat.le_of_ble_eq_true rfl) dX11_sure_76 79 rfl ?_
        refine g_if_eq C 109 dX11_sure_79 (by decide) 82 rfl (fun c_12 => ?_) (fun c_12 => ?_)
        · have h := o_pos h c_12
          refine g_aload_n C dX11_sure_109 rfl 1 rfl 110 rfl ?_
          refine wgX11_314_0 C dX11_sure_110 113 rfl ?_
          refine g_iconst C (v := 1) dX11_sure_113 (by decide) 114 rfl ?_
          refine g_iadd C dX11_sure_114 115 rfl ?_
          obtain ⟨x4_13, ex4_13, h⟩ := o_lt h
          refine g_istore C (lv' := [(4, .int x4_13), (3, .int x3_8), (0, .ref (ad 0)), (1, .int x1), (2, .int x2)]) ex4_13 dX11_sure_115 (by decide) rfl 117 rfl ?_
          refine g_iconst C (v := 0) dX11_sure_117 (by decide) 118 rfl ?_
          obtain ⟨x5_14, ex5_14, h⟩ := o_lt h
          refine g_istore C (lv' := [(5, .int x5_14), (4, .int x4_13), (3, .int x3_8), (0, .ref (ad 0)), (1, .int x1), (2, .int x2)]) ex5_14 dX11_sure_118 (by decide) rfl 120 rfl ?_
          exact g_sub C [3, 4, 5, 2, 1, 0] rfl (kX11_sure_L120 C hr (fun x1_25 x2_26 x3_27 x4_28 σ_29 h => by
              refine g_iconst C (v := 0) dX11_sure_169 (by decide) 170 rfl ?_
              obtain ⟨x5_30, ex5_30, h⟩ := o_lt h
              refine g_istore C (lv' := [(5, .int x5_30), (0, .ref (ad 0)), (1, .int x1_25), (2, .int x2_26), (3, .int x3_27), (4, .int x4_28)]) ex5_30 dX11_sure_170 (by decide) rfl 172 rfl ?_
              exact g_sub C [1, 2, 3, 4, 5, 0] rfl (kX11_sure_L172 C hr (fun x1_44 x2_45 x3_46 x4_47 σ_48 h => by
                  refine g_aload_n C dX11_sure_235 rfl 0 rfl 236 rfl ?_
                  refine wgX11_152_0 C dX11_sure_236 239 rfl ?_
                  refine g_iload_n C dX11_sure_239 rfl 2 rfl 240 rfl ?_
                  refine g_iload C dX11_sure_240 4 rfl 242 rfl ?_
                  refine g_aload_n C dX11_sure_242 rfl 0 rfl 243 rfl ?_
                  refine wgX11_50_0 C dX11_sure_243 246 rfl ?_
                  refine g_iload_n C dX11_sure_246 rfl 3 rfl 247 rfl ?_
                  obtain ⟨c_49, h⟩ := o_chk h
                  refine wlM_11 C c_49 dX11_sure_247 248 rfl ?_
                  refine g_iadd C dX11_sure_248 249 rfl ?_
                  refine g_iconst C (v := 1) dX11_sure_249 (by decide) 250 rfl ?_
                  refine g_isub C dX11_sure_250 251 rfl ?_
                  obtain ⟨c_50, h⟩ := o_chk h
                  obtain ⟨σ_51, eσ_51, h⟩ := o_lt h
                  refine wtM_45 C eσ_51 c_50 dX11_sure_251 252 rfl ?_
                  obtain ⟨x2_52, ex2_52, h⟩ := o_lt h
                  refine g_iinc C (lv' := [(2, .int x2_52), (0, .ref (ad 0)), (1, .int x1_44), (3, .int x3_46), (4, .int x4_47)]) ex2_52 dX11_sure_252 2 rfl (by decide) (by decide) rfl 255 rfl ?_
                  refine g_goto C 34 dX11_sure_255 (by decide) ?_
                  exact g_sub C [1, 2, 0] rfl (ih x1_44 x2_52 σ_51 h)) n x1_25 x2_26 x3_27 x4_28 x5_30 σ_29 h)) n x1 x2 x3_8 x4_13 x5_14 q_11.2 h)
        · have h := o_neg h c_12
          refine g_aload_n C dX11_sure_82 rfl 1 rfl 83 rfl ?_
          refine wgX11_152_0 C dX11_sure_83 86 rfl ?_
          refine g_iload_n C dX11_sure_86 rfl 3 rfl 87 rfl ?_
          refine g_aload_n C dX11_sure_87 rfl 1 rfl 88 rfl ?_
          refine wgX11_314_0 C dX11_sure_88 91 rfl ?_
          refine g_aload_n C dX11_sure_91 rfl 1 rfl 92 rfl ?_
          refine wgX11_50_0 C dX11_sure_92 95 rfl ?_
          refine g_iload_n C dX11_sure_95 rfl 0 rfl 96 rfl ?_
          obtain ⟨c_53, h⟩ := o_chk h
          refine wlM_11 C c_53 dX11_sure_96 97 rfl ?_
          refine g_iadd C dX11_sure_97 98 rfl ?_
          refine g_aload_n C dX11_sure_98 rfl 1 rfl 99 rfl ?_
          refine wgX11_128_0 C dX11_sure_99 102 rfl ?_
          refine g_iload_n C dX11_sure_102 rfl 3 rfl 103 rfl ?_
          obtain ⟨c_54, h⟩ := o_chk h
          refine wlM_37 C c_54 dX11_sure_103 104 rfl ?_
          refine g_isub C dX11_sure_104 105 rfl ?_
          obtain ⟨c_55, h⟩ := o_chk h
          obtain ⟨σ_56, eσ_56, h⟩ := o_lt h
          refine wtM_45 C eσ_56 c_55 dX11_sure_105 106 rfl ?_
          refine g_goto C 252 dX11_sure_106 (by decide) ?_
          obtain ⟨x2_57, ex2_57, h⟩ := o_lt h
          refine g_iinc C (lv' := [(2, .int x2_57), (3, .int x3_8), (0, .ref (ad 0)), (1, .int x1)]) ex2_57 dX11_sure_252 3 rfl (by decide) (by decide) rfl 255 rfl ?_
          refine g_goto C 34 dX11_sure_255 (by decide) ?_
          exact g_sub C [2, 3, 0] rfl (ih x1 x2_57 σ_56 h)
      · have h := o_neg h c_10
        refine g_aload_n C dX11_sure_59 rfl 1 rfl 60 rfl ?_
        refine wgX11_152_0 C dX11_sure_60 63 rfl ?_
        refine g_iload_n C dX11_sure_63 rfl 3 rfl 64 rfl ?_
        refine g_aload_n C dX11_sure_64 rfl 1 rfl 65 rfl ?_
        refine wgX11_122_0 C dX11_sure_65 68 rfl ?_
        refine g_iload_n C dX11_sure_68 rfl 3 rfl 69 rfl ?_
        obtain ⟨c_58, h⟩ := o_chk h
        refine wlM_35 C c_58 dX11_sure_69 70 rfl ?_
        obtain ⟨c_59, h⟩ := o_chk h
        obtain ⟨σ_60, eσ_60, h⟩ := o_lt h
        refine wtM_45 C eσ_60 c_59 dX11_sure_70 71 rfl ?_
        refine g_goto C 252 dX11_sure_71 (by decide) ?_
        obtain ⟨x2_61, ex2_61, h⟩ := o_lt h
        refine g_iinc C (lv' := [(2, .int x2_61), (3, .int x3_8), (0, .ref (ad 0)), (1, .int x1)]) ex2_61 dX11_sure_252 3 rfl (by decide) (by decide) rfl 255 rfl ?_
        refine g_goto C 34 dX11_sure_255 (by decide) ?_
        exact g_sub C [2, 3, 0] rfl (ih x1 x2_61 σ_60 h)
set_option maxHeartbeats 4000000 in
set_option maxRecDepth 100000 in
theorem kX11_sure {l : Launch} {D : va_G} {ad : Nat → Nat} {cI cJ cB cZ : ClassId}  {n : Nat} {x1 : Int32} {σ : ST} {res : Int32 × ST} (h : fX11_sure n x1 σ = some res) : CMi l D (tyz cI cJ cB cZ) (wM ad cI cJ cB cZ) 1 yX11_sure cX11_sure 6 (some .int) [.ref (ad 0), .int x1] σ res := by
  refine cmi_body (own := RX11) (lv := [(0, .ref (ad 0)), (1, .int x1)]) (by decide) rfl (wM_addr _ _ _ _ _) (Nat.le_of_ble_eq_true rfl) rfl (fun p e s m args below meth c A C hr => ?_)
  unfold fX11_sure at h
  refine g_aload_n C dX11_sure_0 rfl 0 rfl 1 rfl ?_
  refine g_iload_n C dX11_sure_1 rfl 1 rfl 2 rfl ?_
  obtain ⟨q_1, hq_1, h⟩ := o_bind h
  refine wcX11_301_M_0 C (kX11_isStep hq_1) (by decide) (Nat.le_of_ble_eq_true rfl) dX11_sure_2 5 rfl ?_
  refine g_if_eq C 25 dX11_sure_5 (by decide) 8 rfl (fun c_2 => ?_) (fun c_2 => ?_)
  · have h := o_pos h c_2
    refine g_iconst C (v := -1) dX11_sure_25 (by decide) 26 rfl ?_
    exact g_iret C hr dX11_sure_26 h
  · have h := o_neg h c_2
    refine g_aload_n C dX11_sure_8 rfl 0 rfl 9 rfl ?_
    refine wgX11_46_0 C dX11_sure_9 12 rfl ?_
    refine g_bipush C (v := 7) dX11_sure_12 (by decide) 14 rfl ?_
    refine g_aload_n C dX11_sure_14 rfl 0 rfl 15 rfl ?_
    refine wgX11_234_0 C dX11_sure_15 18 rfl ?_
    refine g_imul C dX11_sure_18 19 rfl ?_
    refine g_iload_n C dX11_sure_19 rfl 1 rfl 20 rfl ?_
    refine g_iadd C dX11_sure_20 21 rfl ?_
    obtain ⟨c_3, h⟩ := o_chk h
    refine wlM_10 C c_3 dX11_sure_21 22 rfl ?_
    refine g_if_ne C 27 dX11_sure_22 (by decide) 25 rfl (fun c_4 => ?_) (fun c_4 => ?_)
    · have h := o_neg h c_4
      refine g_aload_n C dX11_sure_27 rfl 0 rfl 28 rfl ?_
      refine g_iconst C (v := 0) dX11_sure_28 (by decide) 29 rfl ?_
      obtain ⟨q_5, hq_5, h⟩ := o_bind h
      refine wcX11_323_M_0 C (kX11_lands hq_5) (by decide) (Nat.le_of_ble_eq_true rfl) dX11_sure_29 32 rfl ?_
      refine g_iconst C (v := 0) dX11_sure_32 (by decide) 33 rfl ?_
      obtain ⟨x2_6, ex2_6, h⟩ := o_lt h
      refine g_istore_n C (lv' := [(2, .int x2_6), (0, .ref (ad 0)), (1, .int x1)]) ex2_6 dX11_sure_33 rfl (by decide) rfl 34 rfl ?_
      exact g_sub C [1, 2, 0] rfl (kX11_sure_L34 C hr (fun x1_62 σ_63 h => by
          refine g_aload_n C dX11_sure_258 rfl 0 rfl 259 rfl ?_
          refine wgX11_152_0 C dX11_sure_259 262 rfl ?_
          refine g_iload_n C dX11_sure_262 rfl 1 rfl 263 rfl ?_
          obtain ⟨c_64, h⟩ := o_chk h
          refine wlM_45 C c_64 dX11_sure_263 264 rfl ?_
          refine g_aload_n C dX11_sure_264 rfl 0 rfl 265 rfl ?_
          refine wgX11_53_0 C dX11_sure_265 268 rfl ?_
          refine g_bipush C (v := 7) dX11_sure_268 (by decide) 270 rfl ?_
          refine g_aload_n C dX11_sure_270 rfl 0 rfl 271 rfl ?_
          refine wgX11_234_0 C dX11_sure_271 274 rfl ?_
          refine g_imul C dX11_sure_274 275 rfl ?_
          refine g_iload_n C dX11_sure_275 rfl 1 rfl 276 rfl ?_
          refine g_iadd C dX11_sure_276 277 rfl ?_
          obtain ⟨c_65, h⟩ := o_chk h
          refine wlM_12 C c_65 dX11_sure_277 278 rfl ?_
          refine g_icmp_le C 285 dX11_sure_278 (by decide) 281 rfl (fun c_66 => ?_) (fun c_66 => ?_)
          · have h := o_pos h c_66
            refine g_iconst C (v := 0) dX11_sure_285 (by decide) 286 rfl ?_
            exact g_iret C hr dX11_sure_286 h
          · have h := o_neg h c_66
            refine g_iconst C (v := 1) dX11_sure_281 (by decide) 282 rfl ?_
            refine g_goto C 286 dX11_sure_282 (by decide) ?_
            exact g_iret C hr dX11_sure_286 h) n x1 x2_6 q_5 h)
    · have h := o_pos h c_4
      refine g_iconst C (v := -1) dX11_sure_25 (by decide) 26 rfl ?_
      exact g_iret C hr dX11_sure_26 h
end WK
/-! X11_step public int step(int, int); -/
def fX11_step (n : Nat) (x1 : Int32) (x2 : Int32) (σ : ST) : Option (Int32 × ST) :=
  (Option.bind (fX11_isStep x1 σ) (fun q_1 => (if q_1.1 = 0 then (some ((-1 : Int32), q_1.2)) else (lt ((((7 : Int32)) * (gI q_1.2 11)) + x1) (fun x3_3 => (if x2 = (0 : Int32) then (if ix x3_3 14 then (if (ldA q_1.2 10 x3_3) = 0 then (some ((0 : Int32), q_1.2)) else (some ((1 : Int32), q_1.2))) else none) else (if x2 = (1 : Int32) then (if ix x3_3 14 then (some (ldA q_1.2 11 x3_3, q_1.2)) else none) else (if x2 = (2 : Int32) then (if ix x3_3 14 then (some (ldA q_1.2 12 x3_3, q_1.2)) else none) else (if x2 = (3 : Int32) then (if ix x3_3 14 then (some (ldA q_1.2 13 x3_3, q_1.2)) else none) else (if x2 = (4 : Int32) then (if ix x3_3 14 then (some (ldA q_1.2 18 x3_3, q_1.2)) else none) else (if x2 = (5 : Int32) then (if ix x1 7 then (if (ldA q_1.2 35 x1) = ((-1 : Int32)) then (Option.bind (fX11_isAtHost n x1 q_1.2) (fun q_21 => (if q_21.1 = 0 then (some ((0 : Int32), q_21.2)) else (some ((1 : Int32), q_21.2))))) else (some ((2 : Int32), q_1.2))) else none) else (if x2 = (6 : Int32) then (if ix x1 7 then (some (ldA q_1.2 35 x1, q_1.2)) else none) else (if x2 = (7 : Int32) then (if ix x1 7 then (some (ldA q_1.2 36 x1, q_1.2)) else none) else (if x2 = (8 : Int32) then (Option.bind (fX11_isAtHost n x1 q_1.2) (fun q_25 => (if q_25.1 = 0 then (some ((0 : Int32), q_25.2)) else (if ix x1 7 then (some (ldA q_25.2 37 x1, q_25.2)) else none)))) else (some ((-1 : Int32), q_1.2))))))))))))))))
section WK
variable {p : Program} {l : Launch} {e : Env} {R : Room} {s : State} {m : MethodId} {args : Array Value} {below : List Frame} {meth : Method} {c : Code} {Q : State → Prop}
variable {D : va_G} {ad : Nat → Nat} {cI cJ cB cZ : ClassId} {A : Nat → Prop} {cc : ByteArray} {nL lev : Nat}
variable {σ : ST} {pc : Nat} {lv : List (Nat × Value)} {st : List Value}
set_option maxHeartbeats 4000000 in
set_option maxRecDepth 100000 in
theorem kX11_step {l : Launch} {D : va_G} {ad : Nat → Nat} {cI cJ cB cZ : ClassId}  {n : Nat} {x1 : Int32} {x2 : Int32} {σ : ST} {res : Int32 × ST} (h : fX11_step n x1 x2 σ = some res) : CMi l D (tyz cI cJ cB cZ) (wM ad cI cJ cB cZ) 1 yX11_step cX11_step 4 (some .int) [.ref (ad 0), .int x1, .int x2] σ res := by
  refine cmi_body (own := RX11) (lv := [(0, .ref (ad 0)), (1, .int x1), (2, .int x2)]) (by decide) rfl (wM_addr _ _ _ _ _) (Nat.le_of_ble_eq_true rfl) rfl (fun p e s m args below meth c A C hr => ?_)
  unfold fX11_step at h
  refine g_aload_n C dX11_step_0 rfl 0 rfl 1 rfl ?_
  refine g_iload_n C dX11_step_1 rfl 1 rfl 2 rfl ?_
  obtain ⟨q_1, hq_1, h⟩ := o_bind h
  refine wcX11_301_M_0 C (kX11_isStep hq_1) (by decide) (Nat.le_of_ble_eq_true rfl) dX11_step_2 5 rfl ?_
  refine g_if_ne C 10 dX11_step_5 (by decide) 8 rfl (fun c_2 => ?_) (fun c_2 => ?_)
  · have h := o_neg h c_2
    refine g_bipush C (v := 7) dX11_step_10 (by decide) 12 rfl ?_
    refine g_aload_n C dX11_step_12 rfl 0 rfl 13 rfl ?_
    refine wgX11_234_0 C dX11_step_13 16 rfl ?_
    refine g_imul C dX11_step_16 17 rfl ?_
    refine g_iload_n C dX11_step_17 rfl 1 rfl 18 rfl ?_
    refine g_iadd C dX11_step_18 19 rfl ?_
    obtain ⟨x3_3, ex3_3, h⟩ := o_lt h
    refine g_istore_n C (lv' := [(3, .int x3_3), (0, .ref (ad 0)), (1, .int x1), (2, .int x2)]) ex3_3 dX11_step_19 rfl (by decide) rfl 20 rfl ?_
    refine g_iload_n C dX11_step_20 rfl 3 rfl 21 rfl ?_
    rcases o_ite h with ⟨c_4, h⟩ | ⟨c_4, h⟩
    · refine g_tabIn C (off := 51) 72 dX11_step_21 (by rw [c_4]; decide) (by rw [c_4]; decide) (by rw [c_4]; decide) (by decide) ?_
      refine g_aload_n C dX11_step_72 rfl 1 rfl 73 rfl ?_
      refine wgX11_46_0 C dX11_step_73 76 rfl ?_
      refine g_iload_n C dX11_step_76 rfl 0 rfl 77 rfl ?_
      obtain ⟨c_13, h⟩ := o_chk h
      refine wlM_10 C c_13 dX11_step_77 78 rfl ?_
      refine g_if_eq C 85 dX11_step_78 (by decide) 81 rfl (fun c_14 => ?_) (fun c_14 => ?_)
      · have h := o_pos h c_14
        refine g_iconst C (v := 0) dX11_step_85 (by decide) 86 rfl ?_
        exact g_iret C hr dX11_step_86 h
      · have h := o_neg h c_14
        refine g_iconst C (v := 1) dX11_step_81 (by decide) 82 rfl ?_
        refine g_goto C 86 dX11_step_82 (by decide) ?_
        exact g_iret C hr dX11_step_86 h
    rcases o_ite h with ⟨c_5, h⟩ | ⟨c_5, h⟩
    · refine g_tabIn C (off := 66) 87 dX11_step_21 (by rw [c_5]; decide) (by rw [c_5]; decide) (by rw [c_5]; decide) (by decide) ?_
      refine g_aload_n C dX11_step_87 rfl 1 rfl 88 rfl ?_
      refine wgX11_50_0 C dX11_step_88 91 rfl ?_
      refine g_iload_n C dX11_step_91 rfl 0 rfl 92 rfl ?_
      obtain ⟨c_15, h⟩ := o_chk h
      refine wlM_11 C c_15 dX11_step_92 93 rfl ?_
      exact g_iret C hr dX11_step_93 h
    rcases o_ite h with ⟨c_6, h⟩ | ⟨c_6, h⟩
    · refine g_tabIn C (off := 73) 94 dX11_step_21 (by rw [c_6]; decide) (by rw [c_6]; decide) (by rw [c_6]; decide) (by decide) ?_
      refine g_aload_n C dX11_step_94 rfl 1 rfl 95 rfl ?_
      refine wgX11_53_0 C dX11_step_95 98 rfl ?_
      refine g_iload_n C dX11_step_98 rfl 0 rfl 99 rfl ?_
      obtain ⟨c_16, h⟩ := o_chk h
      refine wlM_12 C c_16 dX11_step_99 100 rfl ?_
      exact g_iret C hr dX11_step_100 h
    rcases o_ite h with ⟨c_7, h⟩ | ⟨c_7, h⟩
    · refine g_tabIn C (off := 80) 101 dX11_step_21 (by rw [c_7]; decide) (by rw [c_7]; decide) (by rw [c_7]; decide) (by decide) ?_
      refine g_aload_n C dX11_step_101 rfl 1 rfl 102 rfl ?_
      refine wgX11_56_0 C dX11_step_102 105 rfl ?_
      refine g_iload_n C dX11_step_105 rfl 0 rfl 106 rfl ?_
      obtain ⟨c_17, h⟩ := o_chk h
      refine wlM_13 C c_17 dX11_step_106 107 rfl ?_
      exact g_iret C hr dX11_step_107 h
    rcases o_ite h with ⟨c_8, h⟩ | ⟨c_8, h⟩
    · refine g_tabIn C (off := 87) 108 dX11_step_21 (by rw [c_8]; decide) (by rw [c_8]; decide) (by rw [c_8]; decide) (by decide) ?_
      refine g_aload_n C dX11_step_108 rfl 1 rfl 109 rfl ?_
      refine wgX11_71_0 C dX11_step_109 112 rfl ?_
      refine g_iload_n C dX11_step_112 rfl 0 rfl 113 rfl ?_
      obtain ⟨c_18, h⟩ := o_chk h
      refine wlM_18 C c_18 dX11_step_113 114 rfl ?_
      exact g_iret C hr dX11_step_114 h
    rcases o_ite h with ⟨c_9, h⟩ | ⟨c_9, h⟩
    · refine g_tabIn C (off := 94) 115 dX11_step_21 (by rw [c_9]; decide) (by rw [c_9]; decide) (by rw [c_9]; decide) (by decide) ?_
      refine g_aload_n C dX11_step_115 rfl 1 rfl 116 rfl ?_
      refine wgX11_122_0 C dX11_step_116 119 rfl ?_
      refine g_iload_n C dX11_step_119 rfl 2 rfl 120 rfl ?_
      obtain ⟨c_19, h⟩ := o_chk h
      refine wlM_35 C c_19 dX11_step_120 121 rfl ?_
      refine g_iconst C (v := -1) dX11_step_121 (by decide) 122 rfl ?_
      refine g_icmp_eq C 129 dX11_step_122 (by decide) 125 rfl (fun c_20 => ?_) (fun c_20 => ?_)
      · have h := o_pos h c_20
        refine g_aload_n C dX11_step_129 rfl 1 rfl 130 rfl ?_
        refine g_iload_n C dX11_step_130 rfl 2 rfl 131 rfl ?_
        obtain ⟨q_21, hq_21, h⟩ := o_bind h
        refine wcX11_311_M_0 C (kX11_isAtHost hq_21) (by decide) (Nat.le_of_ble_eq_true rfl) dX11_step_131 134 rfl ?_
        refine g_if_eq C 141 dX11_step_134 (by decide) 137 rfl (fun c_22 => ?_) (fun c_22 => ?_)
        · have h := o_pos h c_22
          refine g_iconst C (v := 0) dX11_step_141 (by decide) 142 rfl ?_
          exact g_iret C hr dX11_step_142 h
        · have h := o_neg h c_22
          refine g_iconst C (v := 1) dX11_step_137 (by decide) 138 rfl ?_
          refine g_goto C 142 dX11_step_138 (by decide) ?_
          exact g_iret C hr dX11_step_142 h
      · have h := o_neg h c_20
        refine g_iconst C (v := 2) dX11_step_125 (by decide) 126 rfl ?_
        refine g_goto C 142 dX11_step_126 (by decide) ?_
        exact g_iret C hr dX11_step_142 h
    rcases o_ite h with ⟨c_10, h⟩ | ⟨c_10, h⟩
    · refine g_tabIn C (off := 122) 143 dX11_step_21 (by rw [c_10]; decide) (by rw [c_10]; decide) (by rw [c_10]; decide) (by decide) ?_
      refine g_aload_n C dX11_step_143 rfl 1 rfl 144 rfl ?_
      refine wgX11_122_0 C dX11_step_144 147 rfl ?_
      refine g_iload_n C dX11_step_147 rfl 2 rfl 148 rfl ?_
      obtain ⟨c_23, h⟩ := o_chk h
      refine wlM_35 C c_23 dX11_step_148 149 rfl ?_
      exact g_iret C hr dX11_step_149 h
    rcases o_ite h with ⟨c_11, h⟩ | ⟨c_11, h⟩
    · refine g_tabIn C (off := 129) 150 dX11_step_21 (by rw [c_11]; decide) (by rw [c_11]; decide) (by rw [c_11]; decide) (by decide) ?_
      refine g_aload_n C dX11_step_150 rfl 1 rfl 151 rfl ?_
      refine wgX11_125_0 C dX11_step_151 154 rfl ?_
      refine g_iload_n C dX11_step_154 rfl 2 rfl 155 rfl ?_
      obtain ⟨c_24, h⟩ := o_chk h
      refine wlM_36 C c_24 dX11_step_155 156 rfl ?_
      exact g_iret C hr dX11_step_156 h
    rcases o_ite h with ⟨c_12, h⟩ | ⟨c_12, h⟩
    · refine g_tabIn C (off := 136) 157 dX11_step_21 (by rw [c_12]; decide) (by rw [c_12]; decide) (by rw [c_12]; decide) (by decide) ?_
      refine g_aload_n C dX11_step_157 rfl 1 rfl 158 rfl ?_
      refine g_iload_n C dX11_step_158 rfl 2 rfl 159 rfl ?_
      obtain ⟨q_25, hq_25, h⟩ := o_bind h
      refine wcX11_311_M_0 C (kX11_isAtHost hq_25) (by decide) (Nat.le_of_ble_eq_true rfl) dX11_step_159 162 rfl ?_
      refine g_if_eq C 174 dX11_step_162 (by decide) 165 rfl (fun c_26 => ?_) (fun c_26 => ?_)
      · have h := o_pos h c_26
        refine g_iconst C (v := 0) dX11_step_174 (by decide) 175 rfl ?_
        exact g_iret C hr dX11_step_175 h
      · have h := o_neg h c_26
        refine g_aload_n C dX11_step_165 rfl 1 rfl 166 rfl ?_
        refine wgX11_128_0 C dX11_step_166 169 rfl ?_
        refine g_iload_n C dX11_step_169 rfl 2 rfl 170 rfl ?_
        obtain ⟨c_27, h⟩ := o_chk h
        refine wlM_37 C c_27 dX11_step_170 171 rfl ?_
        refine g_goto C 175 dX11_step_171 (by decide) ?_
        exact g_iret C hr dX11_step_175 h
    refine g_tabOut C 176 dX11_step_21 (by have z0 := lv_neT c_4 (a := 0) (by decide); have z1 := lv_neT c_5 (a := 1) (by decide); have z2 := lv_neT c_6 (a := 2) (by decide); have z3 := lv_neT c_7 (a := 3) (by decide); have z4 := lv_neT c_8 (a := 4) (by decide); have z5 := lv_neT c_9 (a := 5) (by decide); have z6 := lv_neT c_10 (a := 6) (by decide); have z7 := lv_neT c_11 (a := 7) (by decide); have z8 := lv_neT c_12 (a := 8) (by decide); omega) (by decide) ?_
    refine g_iconst C (v := -1) dX11_step_176 (by decide) 177 rfl ?_
    exact g_iret C hr dX11_step_177 h
  · have h := o_pos h c_2
    refine g_iconst C (v := -1) dX11_step_8 (by decide) 9 rfl ?_
    exact g_iret C hr dX11_step_9 h
end WK
/-! X11_value public long value(int, int); -/
def fX11_value (x1 : Int32) (x2 : Int32) (σ : ST) : Option (Int64 × ST) :=
  (Option.bind (fX11_isStep x1 σ) (fun q_1 => (if q_1.1 = 0 then (some ((0 : Int64), q_1.2)) else (if x2 < 0 then (some ((0 : Int64), q_1.2)) else (if ((8 : Int32)) ≤ x2 then (some ((0 : Int64), q_1.2)) else (if ix x1 7 then (if (ldA q_1.2 35 x1) = ((-1 : Int32)) then (some ((0 : Int64), q_1.2)) else (if ix ((((8 : Int32)) * x1) + x2) 56 then (some (ldB q_1.2 38 ((((8 : Int32)) * x1) + x2), q_1.2)) else none)) else none))))))
section WK
variable {p : Program} {l : Launch} {e : Env} {R : Room} {s : State} {m : MethodId} {args : Array Value} {below : List Frame} {meth : Method} {c : Code} {Q : State → Prop}
variable {D : va_G} {ad : Nat → Nat} {cI cJ cB cZ : ClassId} {A : Nat → Prop} {cc : ByteArray} {nL lev : Nat}
variable {σ : ST} {pc : Nat} {lv : List (Nat × Value)} {st : List Value}
set_option maxHeartbeats 4000000 in
set_option maxRecDepth 100000 in
theorem kX11_value {l : Launch} {D : va_G} {ad : Nat → Nat} {cI cJ cB cZ : ClassId}  {x1 : Int32} {x2 : Int32} {σ : ST} {res : Int64 × ST} (h : fX11_value x1 x2 σ = some res) : CMl l D (tyz cI cJ cB cZ) (wM ad cI cJ cB cZ) 1 yX11_value cX11_value 3 (some .long) [.ref (ad 0), .int x1, .int x2] σ res := by
  refine cml_body (own := RX11) (lv := [(0, .ref (ad 0)), (1, .int x1), (2, .int x2)]) (by decide) rfl (wM_addr _ _ _ _ _) (Nat.le_of_ble_eq_true rfl) rfl (fun p e s m args below meth c A C hr => ?_)
  unfold fX11_value at h
  refine g_aload_n C dX11_value_0 rfl 0 rfl 1 rfl ?_
  refine g_iload_n C dX11_value_1 rfl 1 rfl 2 rfl ?_
  obtain ⟨q_1, hq_1, h⟩ := o_bind h
  refine wcX11_301_M_0 C (kX11_isStep hq_1) (by decide) (Nat.le_of_ble_eq_true rfl) dX11_value_2 5 rfl ?_
  refine g_if_eq C 42 dX11_value_5 (by decide) 8 rfl (fun c_2 => ?_) (fun c_2 => ?_)
  · have h := o_pos h c_2
    refine g_lconst C (v := 0) dX11_value_42 (by decide) 43 rfl ?_
    exact g_lret C hr dX11_value_43 h
  · have h := o_neg h c_2
    refine g_iload_n C dX11_value_8 rfl 2 rfl 9 rfl ?_
    refine g_if_lt C 42 dX11_value_9 (by decide) 12 rfl (fun c_3 => ?_) (fun c_3 => ?_)
    · have h := o_pos h c_3
      refine g_lconst C (v := 0) dX11_value_42 (by decide) 43 rfl ?_
      exact g_lret C hr dX11_value_43 h
    · have h := o_neg h c_3
      refine g_iload_n C dX11_value_12 rfl 2 rfl 13 rfl ?_
      refine g_bipush C (v := 8) dX11_value_13 (by decide) 15 rfl ?_
      refine g_icmp_ge C 42 dX11_value_15 (by decide) 18 rfl (fun c_4 => ?_) (fun c_4 => ?_)
      · have h := o_pos h c_4
        refine g_lconst C (v := 0) dX11_value_42 (by decide) 43 rfl ?_
        exact g_lret C hr dX11_value_43 h
      · have h := o_neg h c_4
        refine g_aload_n C dX11_value_18 rfl 0 rfl 19 rfl ?_
        refine wgX11_122_0 C dX11_value_19 22 rfl ?_
        refine g_iload_n C dX11_value_22 rfl 1 rfl 23 rfl ?_
        obtain ⟨c_5, h⟩ := o_chk h
        refine wlM_35 C c_5 dX11_value_23 24 rfl ?_
        refine g_iconst C (v := -1) dX11_value_24 (by decide) 25 rfl ?_
        refine g_icmp_eq C 42 dX11_value_25 (by decide) 28 rfl (fun c_6 => ?_) (fun c_6 => ?_)
        · have h := o_pos h c_6
          refine g_lconst C (v := 0) dX11_value_42 (by decide) 43 rfl ?_
          exact g_lret C hr dX11_value_43 h
        · have h := o_neg h c_6
          refine g_aload_n C dX11_value_28 rfl 0 rfl 29 rfl ?_
          refine wgX11_131_0 C dX11_value_29 32 rfl ?_
          refine g_bipush C (v := 8) dX11_value_32 (by decide) 34 rfl ?_
          refine g_iload_n C dX11_value_34 rfl 1 rfl 35 rfl ?_
          refine g_imul C dX11_value_35 36 rfl ?_
          refine g_iload_n C dX11_value_36 rfl 2 rfl 37 rfl ?_
          refine g_iadd C dX11_value_37 38 rfl ?_
          obtain ⟨c_7, h⟩ := o_chk h
          refine wlM_38 C c_7 dX11_value_38 39 rfl ?_
          refine g_goto C 43 dX11_value_39 (by decide) ?_
          exact g_lret C hr dX11_value_43 h
end WK
/-! X11_sent public long sent(int, int, int); -/
def fX11_sent_L57  : Nat → Int32 → Int32 → Int64 → Int32 → ST → Option (Int64 × ST)
  | 0, _, _, _, _, _ => none
  | n + 1, x1, x2, x4, x6, σ => (if ((8 : Int32)) ≤ x6 then (some (x4, σ)) else (if ix ((((8 : Int32)) * ((((6 : Int32)) * x1) + x2)) + x6) 336 then (lt (x4 + (ldB σ 42 ((((8 : Int32)) * ((((6 : Int32)) * x1) + x2)) + x6))) (fun x4_12 => (lt (x6 + 1) (fun x6_13 => (fX11_sent_L57 n x1 x2 x4_12 x6_13 σ))))) else none))
def fX11_sent (n : Nat) (x1 : Int32) (x2 : Int32) (x3 : Int32) (σ : ST) : Option (Int64 × ST) :=
  (Option.bind (fX11_isStep x1 σ) (fun q_1 => (if q_1.1 = 0 then (some ((0 : Int64), q_1.2)) else (Option.bind (fX11_isReader x2 q_1.2) (fun q_3 => (if q_3.1 = 0 then (some ((0 : Int64), q_3.2)) else (if x3 < ((-1 : Int32)) then (some ((0 : Int64), q_3.2)) else (if x3 ≤ ((7 : Int32)) then (if x3 = ((-1 : Int32)) then (lt ((0 : Int64)) (fun x4_8 => (lt ((0 : Int32)) (fun x6_9 => (fX11_sent_L57 n x1 x2 x4_8 x6_9 q_3.2))))) else (if ix ((((8 : Int32)) * ((((6 : Int32)) * x1) + x2)) + x3) 336 then (some (ldB q_3.2 42 ((((8 : Int32)) * ((((6 : Int32)) * x1) + x2)) + x3), q_3.2)) else none)) else (some ((0 : Int64), q_3.2))))))))))
section WK
variable {p : Program} {l : Launch} {e : Env} {R : Room} {s : State} {m : MethodId} {args : Array Value} {below : List Frame} {meth : Method} {c : Code} {Q : State → Prop}
variable {D : va_G} {ad : Nat → Nat} {cI cJ cB cZ : ClassId} {A : Nat → Prop} {cc : ByteArray} {nL lev : Nat}
variable {σ : ST} {pc : Nat} {lv : List (Nat × Value)} {st : List Value}
set_option maxHeartbeats 4000000 in
set_option maxRecDepth 100000 in
theorem kX11_sent_L57 (C : Ctx p l e (rmL 1) s m args below meth c D (tyz cI cJ cB cZ) (wM ad cI cJ cB cZ) A cX11_sent 7 1 RX11) (hr : meth.sig.returnType = some .long) {res : Int64 × ST}   : ∀ (n : Nat) (x1 : Int32) (x2 : Int32) (x4 : Int64) (x6 : Int32) (σ : ST), fX11_sent_L57 n x1 x2 x4 x6 σ = some res → G p l e (rmL 1) s m args below meth c (MQ below (Ql D (tyz cI cJ cB cZ) (wM ad cI cJ cB cZ) A res) args s 0 0 A) D (wM ad cI cJ cB cZ) A 7 σ 57 [(0, .ref (ad 0)), (1, .int x1), (2, .int x2), (4, .long x4), (6, .int x6)] [] := by
  intro n
  induction n with
  | zero => intro x1 x2 x4 x6 σ h; have h : none = some res := h; cases h
  | succ n ih =>
    intro x1 x2 x4 x6 σ h
    rw [fX11_sent_L57] at h
    refine g_iload C dX11_sent_57 4 rfl 59 rfl ?_
    refine g_bipush C (v := 8) dX11_sent_59 (by decide) 61 rfl ?_
    refine g_icmp_ge C 92 dX11_sent_61 (by decide) 64 rfl (fun c_10 => ?_) (fun c_10 => ?_)
    · have h := o_pos h c_10
      refine g_lload C dX11_sent_92 3 rfl 94 rfl ?_
      exact g_lret C hr dX11_sent_94 h
    · have h := o_neg h c_10
      refine g_lload C dX11_sent_64 3 rfl 66 rfl ?_
      refine g_aload_n C dX11_sent_66 rfl 0 rfl 67 rfl ?_
      refine wgX11_143_0 C dX11_sent_67 70 rfl ?_
      refine g_bipush C (v := 8) dX11_sent_70 (by decide) 72 rfl ?_
      refine g_bipush C (v := 6) dX11_sent_72 (by decide) 74 rfl ?_
      refine g_iload_n C dX11_sent_74 rfl 1 rfl 75 rfl ?_
      refine g_imul C dX11_sent_75 76 rfl ?_
      refine g_iload_n C dX11_sent_76 rfl 2 rfl 77 rfl ?_
      refine g_iadd C dX11_sent_77 78 rfl ?_
      refine g_imul C dX11_sent_78 79 rfl ?_
      refine g_iload C dX11_sent_79 4 rfl 81 rfl ?_
      refine g_iadd C dX11_sent_81 82 rfl ?_
      obtain ⟨c_11, h⟩ := o_chk h
      refine wlM_42 C c_11 dX11_sent_82 83 rfl ?_
      refine g_ladd C dX11_sent_83 84 rfl ?_
      obtain ⟨x4_12, ex4_12, h⟩ := o_lt h
      refine g_lstore C (lv' := [(4, .long x4_12), (0, .ref (ad 0)), (1, .int x1), (2, .int x2), (6, .int x6)]) ex4_12 dX11_sent_84 (by decide) rfl 86 rfl ?_
      obtain ⟨x6_13, ex6_13, h⟩ := o_lt h
      refine g_iinc C (lv' := [(6, .int x6_13), (4, .long x4_12), (0, .ref (ad 0)), (1, .int x1), (2, .int x2)]) ex6_13 dX11_sent_86 4 rfl (by decide) (by decide) rfl 89 rfl ?_
      refine g_goto C 57 dX11_sent_89 (by decide) ?_
      exact g_sub C [2, 3, 4, 1, 0] rfl (ih x1 x2 x4_12 x6_13 σ h)
set_option maxHeartbeats 4000000 in
set_option maxRecDepth 100000 in
theorem kX11_sent {l : Launch} {D : va_G} {ad : Nat → Nat} {cI cJ cB cZ : ClassId}  {n : Nat} {x1 : Int32} {x2 : Int32} {x3 : Int32} {σ : ST} {res : Int64 × ST} (h : fX11_sent n x1 x2 x3 σ = some res) : CMl l D (tyz cI cJ cB cZ) (wM ad cI cJ cB cZ) 1 yX11_sent cX11_sent 7 (some .long) [.ref (ad 0), .int x1, .int x2, .int x3] σ res := by
  refine cml_body (own := RX11) (lv := [(0, .ref (ad 0)), (1, .int x1), (2, .int x2), (3, .int x3)]) (by decide) rfl (wM_addr _ _ _ _ _) (Nat.le_of_ble_eq_true rfl) rfl (fun p e s m args below meth c A C hr => ?_)
  unfold fX11_sent at h
  refine g_aload_n C dX11_sent_0 rfl 0 rfl 1 rfl ?_
  refine g_iload_n C dX11_sent_1 rfl 1 rfl 2 rfl ?_
  obtain ⟨q_1, hq_1, h⟩ := o_bind h
  refine wcX11_301_M_0 C (kX11_isStep hq_1) (by decide) (Nat.le_of_ble_eq_true rfl) dX11_sent_2 5 rfl ?_
  refine g_if_eq C 27 dX11_sent_5 (by decide) 8 rfl (fun c_2 => ?_) (fun c_2 => ?_)
  · have h := o_pos h c_2
    refine g_lconst C (v := 0) dX11_sent_27 (by decide) 28 rfl ?_
    exact g_lret C hr dX11_sent_28 h
  · have h := o_neg h c_2
    refine g_aload_n C dX11_sent_8 rfl 0 rfl 9 rfl ?_
    refine g_iload_n C dX11_sent_9 rfl 2 rfl 10 rfl ?_
    obtain ⟨q_3, hq_3, h⟩ := o_bind h
    refine wcX11_295_M_0 C (kX11_isReader hq_3) (by decide) (Nat.le_of_ble_eq_true rfl) dX11_sent_10 13 rfl ?_
    refine g_if_eq C 27 dX11_sent_13 (by decide) 16 rfl (fun c_4 => ?_) (fun c_4 => ?_)
    · have h := o_pos h c_4
      refine g_lconst C (v := 0) dX11_sent_27 (by decide) 28 rfl ?_
      exact g_lret C hr dX11_sent_28 h
    · have h := o_neg h c_4
      refine g_iload_n C dX11_sent_16 rfl 3 rfl 17 rfl ?_
      refine g_iconst C (v := -1) dX11_sent_17 (by decide) 18 rfl ?_
      refine g_icmp_lt C 27 dX11_sent_18 (by decide) 21 rfl (fun c_5 => ?_) (fun c_5 => ?_)
      · have h := o_pos h c_5
        refine g_lconst C (v := 0) dX11_sent_27 (by decide) 28 rfl ?_
        exact g_lret C hr dX11_sent_28 h
      · have h := o_neg h c_5
        refine g_iload_n C dX11_sent_21 rfl 3 rfl 22 rfl ?_
        refine g_bipush C (v := 7) dX11_sent_22 (by decide) 24 rfl ?_
        refine g_icmp_le C 29 dX11_sent_24 (by decide) 27 rfl (fun c_6 => ?_) (fun c_6 => ?_)
        · have h := o_pos h c_6
          refine g_iload_n C dX11_sent_29 rfl 3 rfl 30 rfl ?_
          refine g_iconst C (v := -1) dX11_sent_30 (by decide) 31 rfl ?_
          refine g_icmp_eq C 51 dX11_sent_31 (by decide) 34 rfl (fun c_7 => ?_) (fun c_7 => ?_)
          · have h := o_pos h c_7
            refine g_lconst C (v := 0) dX11_sent_51 (by decide) 52 rfl ?_
            obtain ⟨x4_8, ex4_8, h⟩ := o_lt h
            refine g_lstore C (lv' := [(4, .long x4_8), (0, .ref (ad 0)), (1, .int x1), (2, .int x2), (3, .int x3)]) ex4_8 dX11_sent_52 (by decide) rfl 54 rfl ?_
            refine g_iconst C (v := 0) dX11_sent_54 (by decide) 55 rfl ?_
            obtain ⟨x6_9, ex6_9, h⟩ := o_lt h
            refine g_istore C (lv' := [(6, .int x6_9), (4, .long x4_8), (0, .ref (ad 0)), (1, .int x1), (2, .int x2), (3, .int x3)]) ex6_9 dX11_sent_55 (by decide) rfl 57 rfl ?_
            exact g_sub C [2, 3, 4, 1, 0] rfl (kX11_sent_L57 C hr  n x1 x2 x4_8 x6_9 q_3.2 h)
          · have h := o_neg h c_7
            refine g_aload_n C dX11_sent_34 rfl 0 rfl 35 rfl ?_
            refine wgX11_143_0 C dX11_sent_35 38 rfl ?_
            refine g_bipush C (v := 8) dX11_sent_38 (by decide) 40 rfl ?_
            refine g_bipush C (v := 6) dX11_sent_40 (by decide) 42 rfl ?_
            refine g_iload_n C dX11_sent_42 rfl 1 rfl 43 rfl ?_
            refine g_imul C dX11_sent_43 44 rfl ?_
            refine g_iload_n C dX11_sent_44 rfl 2 rfl 45 rfl ?_
            refine g_iadd C dX11_sent_45 46 rfl ?_
            refine g_imul C dX11_sent_46 47 rfl ?_
            refine g_iload_n C dX11_sent_47 rfl 3 rfl 48 rfl ?_
            refine g_iadd C dX11_sent_48 49 rfl ?_
            obtain ⟨c_14, h⟩ := o_chk h
            refine wlM_42 C c_14 dX11_sent_49 50 rfl ?_
            exact g_lret C hr dX11_sent_50 h
        · have h := o_neg h c_6
          refine g_lconst C (v := 0) dX11_sent_27 (by decide) 28 rfl ?_
          exact g_lret C hr dX11_sent_28 h
end WK
/-! X11_marks public int marks(int, int); -/
def fX11_marks (x1 : Int32) (x2 : Int32) (σ : ST) : Option (Int32 × ST) :=
  (Option.bind (fX11_isStep x1 σ) (fun q_1 => (if q_1.1 = 0 then (some ((-1 : Int32), q_1.2)) else (Option.bind (fX11_isReader x2 q_1.2) (fun q_3 => (if q_3.1 = 0 then (some ((-1 : Int32), q_3.2)) else (if ix ((((6 : Int32)) * x1) + x2) 42 then (if (ldA q_3.2 39 ((((6 : Int32)) * x1) + x2)) = 0 then (some ((-1 : Int32), q_3.2)) else (if ix ((((6 : Int32)) * x1) + x2) 42 then (some (ldA q_3.2 41 ((((6 : Int32)) * x1) + x2), q_3.2)) else none)) else none)))))))
section WK
variable {p : Program} {l : Launch} {e : Env} {R : Room} {s : State} {m : MethodId} {args : Array Value} {below : List Frame} {meth : Method} {c : Code} {Q : State → Prop}
variable {D : va_G} {ad : Nat → Nat} {cI cJ cB cZ : ClassId} {A : Nat → Prop} {cc : ByteArray} {nL lev : Nat}
variable {σ : ST} {pc : Nat} {lv : List (Nat × Value)} {st : List Value}
set_option maxHeartbeats 4000000 in
set_option maxRecDepth 100000 in
theorem kX11_marks {l : Launch} {D : va_G} {ad : Nat → Nat} {cI cJ cB cZ : ClassId}  {x1 : Int32} {x2 : Int32} {σ : ST} {res : Int32 × ST} (h : fX11_marks x1 x2 σ = some res) : CMi l D (tyz cI cJ cB cZ) (wM ad cI cJ cB cZ) 1 yX11_marks cX11_marks 3 (some .int) [.ref (ad 0), .int x1, .int x2] σ res := by
  refine cmi_body (own := RX11) (lv := [(0, .ref (ad 0)), (1, .int x1), (2, .int x2)]) (by decide) rfl (wM_addr _ _ _ _ _) (Nat.le_of_ble_eq_true rfl) rfl (fun p e s m args below meth c A C hr => ?_)
  unfold fX11_marks at h
  refine g_aload_n C dX11_marks_0 rfl 0 rfl 1 rfl ?_
  refine g_iload_n C dX11_marks_1 rfl 1 rfl 2 rfl ?_
  obtain ⟨q_1, hq_1, h⟩ := o_bind h
  refine wcX11_301_M_0 C (kX11_isStep hq_1) (by decide) (Nat.le_of_ble_eq_true rfl) dX11_marks_2 5 rfl ?_
  refine g_if_eq C 44 dX11_marks_5 (by decide) 8 rfl (fun c_2 => ?_) (fun c_2 => ?_)
  · have h := o_pos h c_2
    refine g_iconst C (v := -1) dX11_marks_44 (by decide) 45 rfl ?_
    exact g_iret C hr dX11_marks_45 h
  · have h := o_neg h c_2
    refine g_aload_n C dX11_marks_8 rfl 0 rfl 9 rfl ?_
    refine g_iload_n C dX11_marks_9 rfl 2 rfl 10 rfl ?_
    obtain ⟨q_3, hq_3, h⟩ := o_bind h
    refine wcX11_295_M_0 C (kX11_isReader hq_3) (by decide) (Nat.le_of_ble_eq_true rfl) dX11_marks_10 13 rfl ?_
    refine g_if_eq C 44 dX11_marks_13 (by decide) 16 rfl (fun c_4 => ?_) (fun c_4 => ?_)
    · have h := o_pos h c_4
      refine g_iconst C (v := -1) dX11_marks_44 (by decide) 45 rfl ?_
      exact g_iret C hr dX11_marks_45 h
    · have h := o_neg h c_4
      refine g_aload_n C dX11_marks_16 rfl 0 rfl 17 rfl ?_
      refine wgX11_134_0 C dX11_marks_17 20 rfl ?_
      refine g_bipush C (v := 6) dX11_marks_20 (by decide) 22 rfl ?_
      refine g_iload_n C dX11_marks_22 rfl 1 rfl 23 rfl ?_
      refine g_imul C dX11_marks_23 24 rfl ?_
      refine g_iload_n C dX11_marks_24 rfl 2 rfl 25 rfl ?_
      refine g_iadd C dX11_marks_25 26 rfl ?_
      obtain ⟨c_5, h⟩ := o_chk h
      refine wlM_39 C c_5 dX11_marks_26 27 rfl ?_
      refine g_if_eq C 44 dX11_marks_27 (by decide) 30 rfl (fun c_6 => ?_) (fun c_6 => ?_)
      · have h := o_pos h c_6
        refine g_iconst C (v := -1) dX11_marks_44 (by decide) 45 rfl ?_
        exact g_iret C hr dX11_marks_45 h
      · have h := o_neg h c_6
        refine g_aload_n C dX11_marks_30 rfl 0 rfl 31 rfl ?_
        refine wgX11_140_0 C dX11_marks_31 34 rfl ?_
        refine g_bipush C (v := 6) dX11_marks_34 (by decide) 36 rfl ?_
        refine g_iload_n C dX11_marks_36 rfl 1 rfl 37 rfl ?_
        refine g_imul C dX11_marks_37 38 rfl ?_
        refine g_iload_n C dX11_marks_38 rfl 2 rfl 39 rfl ?_
        refine g_iadd C dX11_marks_39 40 rfl ?_
        obtain ⟨c_7, h⟩ := o_chk h
        refine wlM_41 C c_7 dX11_marks_40 41 rfl ?_
        refine g_goto C 45 dX11_marks_41 (by decide) ?_
        exact g_iret C hr dX11_marks_45 h
end WK
