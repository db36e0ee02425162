/-! X11_table public int table(int, int); -/
def fX11_table (x1 : Int32) (x2 : Int32) (σ : ST) : Option (Int32 × ST) :=
  (Option.bind (fX11_isTable x1 σ) (fun q_1 => (if q_1.1 = 0 then (some ((-1 : Int32), q_1.2)) else (if x2 = (0 : Int32) then (if ix x1 6 then (some (ldA q_1.2 24 x1, q_1.2)) else none) else (if x2 = (1 : Int32) then (if ix x1 6 then (some (ldA q_1.2 28 x1, q_1.2)) else none) else (if x2 = (2 : Int32) then (if ix x1 6 then (some (ldA q_1.2 25 x1, q_1.2)) else none) else (if x2 = (3 : Int32) then (if ix x1 6 then (some (ldA q_1.2 22 x1, q_1.2)) else none) else (if x2 = (4 : Int32) then (if ix x1 6 then (some (ldA q_1.2 23 x1, q_1.2)) else none) else (some ((-1 : Int32), q_1.2))))))))))
section WK
variable {p : Program} {l : Launch} {e : Env} {R : Room} {s : State} {m : MethodId} {args : Array Value} {below : List Frame} {meth : Method} {c : Code} {Q : State → Prop}
variable {D : va_G} {ad : Nat → Nat} {cI cJ cB cZ : ClassId} {A : Nat → Prop} {cc : ByteArray} {nL lev : Nat}
variable {σ : ST} {pc : Nat} {lv : List (Nat × Value)} {st : List Value}
set_option maxHeartbeats 4000000 in
set_option maxRecDepth 100000 in
theorem kX11_table {l : Launch} {D : va_G} {ad : Nat → Nat} {cI cJ cB cZ : ClassId}  {x1 : Int32} {x2 : Int32} {σ : ST} {res : Int32 × ST} (h : fX11_table x1 x2 σ = some res) : CMi l D (tyz cI cJ cB cZ) (wM ad cI cJ cB cZ) 1 yX11_table cX11_table 3 (some .int) [.ref (ad 0), .int x1, .int x2] σ res := by
  refine cmi_body (own := RX11) (lv := [(0, .ref (ad 0)), (1, .int x1), (2, .int x2)]) (by decide) rfl (wM_addr _ _ _ _ _) (Nat.le_of_ble_eq_true rfl) rfl (fun p e s m args below meth c A C hr => ?_)
  unfold fX11_table at h
  refine g_iload_n C dX11_table_0 rfl 1 rfl 1 rfl ?_
  obtain ⟨q_1, hq_1, h⟩ := o_bind h
  refine wcX11_292_M C (kX11_isTable hq_1) (by decide) (Nat.le_of_ble_eq_true rfl) dX11_table_1 4 rfl ?_
  refine g_if_ne C 9 dX11_table_4 (by decide) 7 rfl (fun c_2 => ?_) (fun c_2 => ?_)
  · have h := o_neg h c_2
    refine g_iload_n C dX11_table_9 rfl 2 rfl 10 rfl ?_
    rcases o_ite h with ⟨c_3, h⟩ | ⟨c_3, h⟩
    · refine g_tabIn C (off := 34) 44 dX11_table_10 (by rw [c_3]; decide) (by rw [c_3]; decide) (by rw [c_3]; decide) (by decide) ?_
      refine g_aload_n C dX11_table_44 rfl 0 rfl 45 rfl ?_
      refine wgX11_89_0 C dX11_table_45 48 rfl ?_
      refine g_iload_n C dX11_table_48 rfl 1 rfl 49 rfl ?_
      obtain ⟨c_8, h⟩ := o_chk h
      refine wlM_24 C c_8 dX11_table_49 50 rfl ?_
      exact g_iret C hr dX11_table_50 h
    rcases o_ite h with ⟨c_4, h⟩ | ⟨c_4, h⟩
    · refine g_tabIn C (off := 41) 51 dX11_table_10 (by rw [c_4]; decide) (by rw [c_4]; decide) (by rw [c_4]; decide) (by decide) ?_
      refine g_aload_n C dX11_table_51 rfl 0 rfl 52 rfl ?_
      refine wgX11_101_0 C dX11_table_52 55 rfl ?_
      refine g_iload_n C dX11_table_55 rfl 1 rfl 56 rfl ?_
      obtain ⟨c_9, h⟩ := o_chk h
      refine wlM_28 C c_9 dX11_table_56 57 rfl ?_
      exact g_iret C hr dX11_table_57 h
    rcases o_ite h with ⟨c_5, h⟩ | ⟨c_5, h⟩
    · refine g_tabIn C (off := 48) 58 dX11_table_10 (by rw [c_5]; decide) (by rw [c_5]; decide) (by rw [c_5]; decide) (by decide) ?_
      refine g_aload_n C dX11_table_58 rfl 0 rfl 59 rfl ?_
      refine wgX11_92_0 C dX11_table_59 62 rfl ?_
      refine g_iload_n C dX11_table_62 rfl 1 rfl 63 rfl ?_
      obtain ⟨c_10, h⟩ := o_chk h
      refine wlM_25 C c_10 dX11_table_63 64 rfl ?_
      exact g_iret C hr dX11_table_64 h
    rcases o_ite h with ⟨c_6, h⟩ | ⟨c_6, h⟩
    · refine g_tabIn C (off := 55) 65 dX11_table_10 (by rw [c_6]; decide) (by rw [c_6]; decide) (by rw [c_6]; decide) (by decide) ?_
      refine g_aload_n C dX11_table_65 rfl 0 rfl 66 rfl ?_
      refine wgX11_83_0 C dX11_table_66 69 rfl ?_
      refine g_iload_n C dX11_table_69 rfl 1 rfl 70 rfl ?_
      obtain ⟨c_11, h⟩ := o_chk h
      refine wlM_22 C c_11 dX11_table_70 71 rfl ?_
      exact g_iret C hr dX11_table_71 h
    rcases o_ite h with ⟨c_7, h⟩ | ⟨c_7, h⟩
    · refine g_tabIn C (off := 62) 72 dX11_table_10 (by rw [c_7]; decide) (by rw [c_7]; decide) (by rw [c_7]; decide) (by decide) ?_
      refine g_aload_n C dX11_table_72 rfl 0 rfl 73 rfl ?_
      refine wgX11_86_0 C dX11_table_73 76 rfl ?_
      refine g_iload_n C dX11_table_76 rfl 1 rfl 77 rfl ?_
      obtain ⟨c_12, h⟩ := o_chk h
      refine wlM_23 C c_12 dX11_table_77 78 rfl ?_
      exact g_iret C hr dX11_table_78 h
    refine g_tabOut C 79 dX11_table_10 (by have z0 := lv_neT c_3 (a := 0) (by decide); have z1 := lv_neT c_4 (a := 1) (by decide); have z2 := lv_neT c_5 (a := 2) (by decide); have z3 := lv_neT c_6 (a := 3) (by decide); have z4 := lv_neT c_7 (a := 4) (by decide); omega) (by decide) ?_
    refine g_iconst C (v := -1) dX11_table_79 (by decide) 80 rfl ?_
    exact g_iret C hr dX11_table_80 h
  · have h := o_pos h c_2
    refine g_iconst C (v := -1) dX11_table_7 (by decide) 8 rfl ?_
    exact g_iret C hr dX11_table_8 h
end WK
/-! X11_count public int count(int); -/
def fX11_count_L75  : Nat → Int32 → Int32 → ST → Option (Int32 × ST)
  | 0, _, _, _ => none
  | n + 1, x2, x3, σ => (if ((3 : Int32)) ≤ x3 then (some (x2, σ)) else (if ix x3 3 then (if (ldA σ 33 x3) = ((-1 : Int32)) then (lt (x2 + ((0 : Int32))) (fun x2_15 => (lt (x3 + 1) (fun x3_16 => (fX11_count_L75 n x2_15 x3_16 σ))))) else (lt (x2 + ((1 : Int32))) (fun x2_17 => (lt (x3 + 1) (fun x3_18 => (fX11_count_L75 n x2_17 x3_18 σ)))))) else none))
def fX11_count_L108  : Nat → Int32 → Int32 → ST → Option (Int32 × ST)
  | 0, _, _, _ => none
  | n + 1, x2, x3, σ => (if ix (gI σ 11) 2 then (if (ldA σ 8 (gI σ 11)) ≤ x3 then (some (x2, σ)) else (if ix x3 7 then (if (ldA σ 35 x3) = ((-1 : Int32)) then (lt (x2 + ((0 : Int32))) (fun x2_24 => (lt (x3 + 1) (fun x3_25 => (fX11_count_L108 n x2_24 x3_25 σ))))) else (lt (x2 + ((1 : Int32))) (fun x2_26 => (lt (x3 + 1) (fun x3_27 => (fX11_count_L108 n x2_26 x3_27 σ)))))) else none)) else none)
def fX11_count_L149  : Nat → Int32 → Int32 → ST → Option (Int32 × ST)
  | 0, _, _, _ => none
  | n + 1, x2, x3, σ => (if ((42 : Int32)) ≤ x3 then (some (x2, σ)) else (if ix x3 42 then (lt (x2 + (ldA σ 41 x3)) (fun x2_31 => (lt (x3 + 1) (fun x3_32 => (fX11_count_L149 n x2_31 x3_32 σ))))) else none))
def fX11_count (n : Nat) (x1 : Int32) (σ : ST) : Option (Int32 × ST) :=
  (lt ((0 : Int32)) (fun x2_1 => (if x1 = (0 : Int32) then (if ix (gI σ 11) 2 then (some (ldA σ 8 (gI σ 11), σ)) else none) else (if x1 = (1 : Int32) then (some (gI σ 17, σ)) else (if x1 = (2 : Int32) then (some (gI σ 18, σ)) else (if x1 = (3 : Int32) then (some (gI σ 19, σ)) else (if x1 = (4 : Int32) then (lt ((0 : Int32)) (fun x3_11 => (fX11_count_L75 n x2_1 x3_11 σ))) else (if x1 = (5 : Int32) then (lt ((0 : Int32)) (fun x3_19 => (fX11_count_L108 n x2_1 x3_19 σ))) else (if x1 = (6 : Int32) then (lt ((0 : Int32)) (fun x3_28 => (fX11_count_L149 n x2_1 x3_28 σ))) else (if x1 = (7 : Int32) then (some (gI σ 1, σ)) else (some ((-1 : Int32), σ))))))))))))
section WK
variable {p : Program} {l : Launch} {e : Env} {R : Room} {s : State} {m : MethodId} {args : Array Value} {below : List Frame} {meth : Method} {c : Code} {Q : State → Prop}
variable {D : va_G} {ad : Nat → Nat} {cI cJ cB cZ : ClassId} {A : Nat → Prop} {cc : ByteArray} {nL lev : Nat}
variable {σ : ST} {pc : Nat} {lv : List (Nat × Value)} {st : List Value}
set_option maxHeartbeats 4000000 in
set_option maxRecDepth 100000 in
theorem kX11_count_L75 (C : Ctx p l e (rmL 0) s m args below meth c D (tyz cI cJ cB cZ) (wM ad cI cJ cB cZ) A cX11_count 4 0 RX11) (hr : meth.sig.returnType = some .int) {res : Int32 × ST}   : ∀ (n : Nat) (x2 : Int32) (x3 : Int32) (σ : ST), fX11_count_L75 n x2 x3 σ = some res → G p l e (rmL 0) s m args below meth c (MQ below (Qi D (tyz cI cJ cB cZ) (wM ad cI cJ cB cZ) A res) args s 0 0 A) D (wM ad cI cJ cB cZ) A 4 σ 75 [(0, .ref (ad 0)), (2, .int x2), (3, .int x3)] [] := by
  intro n
  induction n with
  | zero => intro x2 x3 σ h; have h : none = some res := h; cases h
  | succ n ih =>
    intro x2 x3 σ h
    rw [fX11_count_L75] at h
    refine g_iload_n C dX11_count_75 rfl 2 rfl 76 rfl ?_
    refine g_iconst C (v := 3) dX11_count_76 (by decide) 77 rfl ?_
    refine g_icmp_ge C 104 dX11_count_77 (by decide) 80 rfl (fun c_12 => ?_) (fun c_12 => ?_)
    · have h := o_pos h c_12
      refine g_iload_n C dX11_count_104 rfl 1 rfl 105 rfl ?_
      exact g_iret C hr dX11_count_105 h
    · have h := o_neg h c_12
      refine g_iload_n C dX11_count_80 rfl 1 rfl 81 rfl ?_
      refine g_aload_n C dX11_count_81 rfl 0 rfl 82 rfl ?_
      refine wgX11_116_0 C dX11_count_82 85 rfl ?_
      refine g_iload_n C dX11_count_85 rfl 2 rfl 86 rfl ?_
      obtain ⟨c_13, h⟩ := o_chk h
      refine wlM_33 C c_13 dX11_count_86 87 rfl ?_
      refine g_iconst C (v := -1) dX11_count_87 (by decide) 88 rfl ?_
      refine g_icmp_eq C 95 dX11_count_88 (by decide) 91 rfl (fun c_14 => ?_) (fun c_14 => ?_)
      · have h := o_pos h c_14
        refine g_iconst C (v := 0) dX11_count_95 (by decide) 96 rfl ?_
        refine g_iadd C dX11_count_96 97 rfl ?_
        obtain ⟨x2_15, ex2_15, h⟩ := o_lt h
        refine g_istore_n C (lv' := [(2, .int x2_15), (0, .ref (ad 0)), (3, .int x3)]) ex2_15 dX11_count_97 rfl (by decide) rfl 98 rfl ?_
        obtain ⟨x3_16, ex3_16, h⟩ := o_lt h
        refine g_iinc C (lv' := [(3, .int x3_16), (2, .int x2_15), (0, .ref (ad 0))]) ex3_16 dX11_count_98 2 rfl (by decide) (by decide) rfl 101 rfl ?_
        refine g_goto C 75 dX11_count_101 (by decide) ?_
        exact g_sub C [2, 1, 0] rfl (ih x2_15 x3_16 σ h)
      · have h := o_neg h c_14
        refine g_iconst C (v := 1) dX11_count_91 (by decide) 92 rfl ?_
        refine g_goto C 96 dX11_count_92 (by decide) ?_
        refine g_iadd C dX11_count_96 97 rfl ?_
        obtain ⟨x2_17, ex2_17, h⟩ := o_lt h
        refine g_istore_n C (lv' := [(2, .int x2_17), (0, .ref (ad 0)), (3, .int x3)]) ex2_17 dX11_count_97 rfl (by decide) rfl 98 rfl ?_
        obtain ⟨x3_18, ex3_18, h⟩ := o_lt h
        refine g_iinc C (lv' := [(3, .int x3_18), (2, .int x2_17), (0, .ref (ad 0))]) ex3_18 dX11_count_98 2 rfl (by decide) (by decide) rfl 101 rfl ?_
        refine g_goto C 75 dX11_count_101 (by decide) ?_
        exact g_sub C [2, 1, 0] rfl (ih x2_17 x3_18 σ h)
set_option maxHeartbeats 4000000 in
set_option maxRecDepth 100000 in
theorem kX11_count_L108 (C : Ctx p l e (rmL 0) s m args below meth c D (tyz cI cJ cB cZ) (wM ad cI cJ cB cZ) A cX11_count 4 0 RX11) (hr : meth.sig.returnType = some .int) {res : Int32 × ST}   : ∀ (n : Nat) (x2 : Int32) (x3 : Int32) (σ : ST), fX11_count_L108 n x2 x3 σ = some res → G p l e (rmL 0) s m args below meth c (MQ below (Qi D (tyz cI cJ cB cZ) (wM ad cI cJ cB cZ) A res) args s 0 0 A) D (wM ad cI cJ cB cZ) A 4 σ 108 [(0, .ref (ad 0)), (2, .int x2), (3, .int x3)] [] := by
  intro n
  induction n with
  | zero => intro x2 x3 σ h; have h : none = some res := h; cases h
  | succ n ih =>
    intro x2 x3 σ h
    rw [fX11_count_L108] at h
    refine g_iload_n C dX11_count_108 rfl 2 rfl 109 rfl ?_
    refine g_aload_n C dX11_count_109 rfl 0 rfl 110 rfl ?_
    refine wgX11_40_0 C dX11_count_110 113 rfl ?_
    refine g_aload_n C dX11_count_113 rfl 0 rfl 114 rfl ?_
    refine wgX11_234_0 C dX11_count_114 117 rfl ?_
    obtain ⟨c_20, h⟩ := o_chk h
    refine wlM_8 C c_20 dX11_count_117 118 rfl ?_
    refine g_icmp_ge C 145 dX11_count_118 (by decide) 121 rfl (fun c_21 => ?_) (fun c_21 => ?_)
    · have h := o_pos h c_21
      refine g_iload_n C dX11_count_145 rfl 1 rfl 146 rfl ?_
      exact g_iret C hr dX11_count_146 h
    · have h := o_neg h c_21
      refine g_iload_n C dX11_count_121 rfl 1 rfl 122 rfl ?_
      refine g_aload_n C dX11_count_122 rfl 0 rfl 123 rfl ?_
      refine wgX11_122_0 C dX11_count_123 126 rfl ?_
      refine g_iload_n C dX11_count_126 rfl 2 rfl 127 rfl ?_
      obtain ⟨c_22, h⟩ := o_chk h
      refine wlM_35 C c_22 dX11_count_127 128 rfl ?_
      refine g_iconst C (v := -1) dX11_count_128 (by decide) 129 rfl ?_
      refine g_icmp_eq C 136 dX11_count_129 (by decide) 132 rfl (fun c_23 => ?_) (fun c_23 => ?_)
      · have h := o_pos h c_23
        refine g_iconst C (v := 0) dX11_count_136 (by decide) 137 rfl ?_
        refine g_iadd C dX11_count_137 138 rfl ?_
        obtain ⟨x2_24, ex2_24, h⟩ := o_lt h
        refine g_istore_n C (lv' := [(2, .int x2_24), (0, .ref (ad 0)), (3, .int x3)]) ex2_24 dX11_count_138 rfl (by decide) rfl 139 rfl ?_
        obtain ⟨x3_25, ex3_25, h⟩ := o_lt h
        refine g_iinc C (lv' := [(3, .int x3_25), (2, .int x2_24), (0, .ref (ad 0))]) ex3_25 dX11_count_139 2 rfl (by decide) (by decide) rfl 142 rfl ?_
        refine g_goto C 108 dX11_count_142 (by decide) ?_
        exact g_sub C [2, 1, 0] rfl (ih x2_24 x3_25 σ h)
      · have h := o_neg h c_23
        refine g_iconst C (v := 1) dX11_count_132 (by decide) 133 rfl ?_
        refine g_goto C 137 dX11_count_133 (by decide) ?_
        refine g_iadd C dX11_count_137 138 rfl ?_
        obtain ⟨x2_26, ex2_26, h⟩ := o_lt h
        refine g_istore_n C (lv' := [(2, .int x2_26), (0, .ref (ad 0)), (3, .int x3)]) ex2_26 dX11_count_138 rfl (by decide) rfl 139 rfl ?_
        obtain ⟨x3_27, ex3_27, h⟩ := o_lt h
        refine g_iinc C (lv' := [(3, .int x3_27), (2, .int x2_26), (0, .ref (ad 0))]) ex3_27 dX11_count_139 2 rfl (by decide) (by decide) rfl 142 rfl ?_
        refine g_goto C 108 dX11_count_142 (by decide) ?_
        exact g_sub C [2, 1, 0] rfl (ih x2_26 x3_27 σ h)
set_option maxHeartbeats 4000000 in
set_option maxRecDepth 100000 in
theorem kX11_count_L149 (C : Ctx p l e (rmL 0) s m args below meth c D (tyz cI cJ cB cZ) (wM ad cI cJ cB cZ) A cX11_count 4 0 RX11) (hr : meth.sig.returnType = some .int) {res : Int32 × ST}   : ∀ (n : Nat) (x2 : Int32) (x3 : Int32) (σ : ST), fX11_count_L149 n x2 x3 σ = some res → G p l e (rmL 0) s m args below meth c (MQ below (Qi D (tyz cI cJ cB cZ) (wM ad cI cJ cB cZ) A res) args s 0 0 A) D (wM ad cI cJ cB cZ) A 4 σ 149 [(0, .ref (ad 0)), (2, .int x2), (3, .int x3)] [] := by
  intro n
  induction n with
  | zero => intro x2 x3 σ h; have h : none = some res := h; cases h
  | succ n ih =>
    intro x2 x3 σ h
    rw [fX11_count_L149] at h
    refine g_iload_n C dX11_count_149 rfl 2 rfl 150 rfl ?_
    refine g_bipush C (v := 42) dX11_count_150 (by decide) 152 rfl ?_
    refine g_icmp_ge C 170 dX11_count_152 (by decide) 155 rfl (fun c_29 => ?_) (fun c_29 => ?_)
    · have h := o_pos h c_29
      refine g_iload_n C dX11_count_170 rfl 1 rfl 171 rfl ?_
      exact g_iret C hr dX11_count_171 h
    · have h := o_neg h c_29
      refine g_iload_n C dX11_count_155 rfl 1 rfl 156 rfl ?_
      refine g_aload_n C dX11_count_156 rfl 0 rfl 157 rfl ?_
      refine wgX11_140_0 C dX11_count_157 160 rfl ?_
      refine g_iload_n C dX11_count_160 rfl 2 rfl 161 rfl ?_
      obtain ⟨c_30, h⟩ := o_chk h
      refine wlM_41 C c_30 dX11_count_161 162 rfl ?_
      refine g_iadd C dX11_count_162 163 rfl ?_
      obtain ⟨x2_31, ex2_31, h⟩ := o_lt h
      refine g_istore_n C (lv' := [(2, .int x2_31), (0, .ref (ad 0)), (3, .int x3)]) ex2_31 dX11_count_163 rfl (by decide) rfl 164 rfl ?_
      obtain ⟨x3_32, ex3_32, h⟩ := o_lt h
      refine g_iinc C (lv' := [(3, .int x3_32), (2, .int x2_31), (0, .ref (ad 0))]) ex3_32 dX11_count_164 2 rfl (by decide) (by decide) rfl 167 rfl ?_
      refine g_goto C 149 dX11_count_167 (by decide) ?_
      exact g_sub C [2, 1, 0] rfl (ih x2_31 x3_32 σ h)
set_option maxHeartbeats 4000000 in
set_option maxRecDepth 100000 in
theorem kX11_count {l : Launch} {D : va_G} {ad : Nat → Nat} {cI cJ cB cZ : ClassId}  {n : Nat} {x1 : Int32} {σ : ST} {res : Int32 × ST} (h : fX11_count n x1 σ = some res) : CMi l D (tyz cI cJ cB cZ) (wM ad cI cJ cB cZ) 0 yX11_count cX11_count 4 (some .int) [.ref (ad 0), .int x1] σ res := by
  refine cmi_body (own := RX11) (lv := [(0, .ref (ad 0)), (1, .int x1)]) (by decide) rfl (wM_addr _ _ _ _ _) (Nat.le_of_ble_eq_true rfl) rfl (fun p e s m args below meth c A C hr => ?_)
  unfold fX11_count at h
  refine g_iconst C (v := 0) dX11_count_0 (by decide) 1 rfl ?_
  obtain ⟨x2_1, ex2_1, h⟩ := o_lt h
  refine g_istore_n C (lv' := [(2, .int x2_1), (0, .ref (ad 0)), (1, .int x1)]) ex2_1 dX11_count_1 rfl (by decide) rfl 2 rfl ?_
  refine g_iload_n C dX11_count_2 rfl 2 rfl 3 rfl ?_
  rcases o_ite h with ⟨c_2, h⟩ | ⟨c_2, h⟩
  · refine g_tabIn C (off := 45) 48 dX11_count_3 (by rw [c_2]; decide) (by rw [c_2]; decide) (by rw [c_2]; decide) (by decide) ?_
    refine g_aload_n C dX11_count_48 rfl 1 rfl 49 rfl ?_
    refine wgX11_40_0 C dX11_count_49 52 rfl ?_
    refine g_aload_n C dX11_count_52 rfl 1 rfl 53 rfl ?_
    refine wgX11_234_0 C dX11_count_53 56 rfl ?_
    obtain ⟨c_10, h⟩ := o_chk h
    refine wlM_8 C c_10 dX11_count_56 57 rfl ?_
    exact g_iret C hr dX11_count_57 h
  rcases o_ite h with ⟨c_3, h⟩ | ⟨c_3, h⟩
  · refine g_tabIn C (off := 55) 58 dX11_count_3 (by rw [c_3]; decide) (by rw [c_3]; decide) (by rw [c_3]; decide) (by decide) ?_
    refine g_aload_n C dX11_count_58 rfl 1 rfl 59 rfl ?_
    refine wgX11_289_0 C dX11_count_59 62 rfl ?_
    exact g_iret C hr dX11_count_62 h
  rcases o_ite h with ⟨c_4, h⟩ | ⟨c_4, h⟩
  · refine g_tabIn C (off := 60) 63 dX11_count_3 (by rw [c_4]; decide) (by rw [c_4]; decide) (by rw [c_4]; decide) (by decide) ?_
    refine g_aload_n C dX11_count_63 rfl 1 rfl 64 rfl ?_
    refine wgX11_314_0 C dX11_count_64 67 rfl ?_
    exact g_iret C hr dX11_count_67 h
  rcases o_ite h with ⟨c_5, h⟩ | ⟨c_5, h⟩
  · refine g_tabIn C (off := 65) 68 dX11_count_3 (by rw [c_5]; decide) (by rw [c_5]; decide) (by rw [c_5]; decide) (by decide) ?_
    refine g_aload_n C dX11_count_68 rfl 1 rfl 69 rfl ?_
    refine wgX11_168_0 C dX11_count_69 72 rfl ?_
    exact g_iret C hr dX11_count_72 h
  rcases o_ite h with ⟨c_6, h⟩ | ⟨c_6, h⟩
  · refine g_tabIn C (off := 70) 73 dX11_count_3 (by rw [c_6]; decide) (by rw [c_6]; decide) (by rw [c_6]; decide) (by decide) ?_
    refine g_iconst C (v := 0) dX11_count_73 (by decide) 74 rfl ?_
    obtain ⟨x3_11, ex3_11, h⟩ := o_lt h
    refine g_istore_n C (lv' := [(3, .int x3_11), (2, .int x2_1), (0, .ref (ad 0)), (1, .int x1)]) ex3_11 dX11_count_74 rfl (by decide) rfl 75 rfl ?_
    exact g_sub C [2, 1, 0] rfl (kX11_count_L75 C hr  n x2_1 x3_11 σ h)
  rcases o_ite h with ⟨c_7, h⟩ | ⟨c_7, h⟩
  · refine g_tabIn C (off := 103) 106 dX11_count_3 (by rw [c_7]; decide) (by rw [c_7]; decide) (by rw [c_7]; decide) (by decide) ?_
    refine g_iconst C (v := 0) dX11_count_106 (by decide) 107 rfl ?_
    obtain ⟨x3_19, ex3_19, h⟩ := o_lt h
    refine g_istore_n C (lv' := [(3, .int x3_19), (2, .int x2_1), (0, .ref (ad 0)), (1, .int x1)]) ex3_19 dX11_count_107 rfl (by decide) rfl 108 rfl ?_
    exact g_sub C [2, 1, 0] rfl (kX11_count_L108 C hr  n x2_1 x3_19 σ h)
  rcases o_ite h with ⟨c_8, h⟩ | ⟨c_8, h⟩
  · refine g_tabIn C (off := 144) 147 dX11_count_3 (by rw [c_8]; decide) (by rw [c_8]; decide) (by rw [c_8]; decide) (by decide) ?_
    refine g_iconst C (v := 0) dX11_count_147 (by decide) 148 rfl ?_
    obtain ⟨x3_28, ex3_28, h⟩ := o_lt h
    refine g_istore_n C (lv' := [(3, .int x3_28), (2, .int x2_1), (0, .ref (ad 0)), (1, .int x1)]) ex3_28 dX11_count_148 rfl (by decide) rfl 149 rfl ?_
    exact g_sub C [2, 1, 0] rfl (kX11_count_L149 C hr  n x2_1 x3_28 σ h)
  rcases o_ite h with ⟨c_9, h⟩ | ⟨c_9, h⟩
  · refine g_tabIn C (off := 169) 172 dX11_count_3 (by rw [c_9]; decide) (by rw [c_9]; decide) (by rw [c_9]; decide) (by decide) ?_
    refine g_aload_n C dX11_count_172 rfl 1 rfl 173 rfl ?_
    refine wgX11_171_0 C dX11_count_173 176 rfl ?_
    exact g_iret C hr dX11_count_176 h
  refine g_tabOut C 177 dX11_count_3 (by have z0 := lv_neT c_2 (a := 0) (by decide); have z1 := lv_neT c_3 (a := 1) (by decide); have z2 := lv_neT c_4 (a := 2) (by decide); have z3 := lv_neT c_5 (a := 3) (by decide); have z4 := lv_neT c_6 (a := 4) (by decide); have z5 := lv_neT c_7 (a := 5) (by decide); have z6 := lv_neT c_8 (a := 6) (by decide); have z7 := lv_neT c_9 (a := 7) (by decide); omega) (by decide) ?_
  refine g_iconst C (v := -1) dX11_count_177 (by decide) 178 rfl ?_
  exact g_iret C hr dX11_count_178 h
end WK
