/-! X11_hosts public boolean hosts(int); -/
def fX11_hosts_L14  : Nat → Int32 → Int32 → ST → Option (Int32 × ST)
  | 0, _, _, _ => none
  | n + 1, x1, x2, σ => (if ((3 : Int32)) ≤ x2 then (lt (sI σ 19 x1) (fun σ_5 => (some ((1 : Int32), σ_5)))) else (if ix x2 3 then (if (ldA σ 33 x2) = ((-1 : Int32)) then (lt (x2 + 1) (fun x2_8 => (fX11_hosts_L14 n x1 x2_8 σ))) else (some ((0 : Int32), σ))) else none))
def fX11_hosts (n : Nat) (x1 : Int32) (σ : ST) : Option (Int32 × ST) :=
  (if x1 < ((1 : Int32)) then (some ((0 : Int32), σ)) else (if x1 ≤ ((3 : Int32)) then (lt ((0 : Int32)) (fun x2_3 => (fX11_hosts_L14 n x1 x2_3 σ))) else (some ((0 : Int32), σ))))
section WK
variable {p : Program} {l : Launch} {e : Env} {R : Room} {s : State} {m : MethodId} {args : Array Value} {below : List Frame} {meth : Method} {c : Code} {Q : State → Prop}
variable {D : va_G} {ad : Nat → Nat} {cI cJ cB cZ : ClassId} {A : Nat → Prop} {cc : ByteArray} {nL lev : Nat}
variable {σ : ST} {pc : Nat} {lv : List (Nat × Value)} {st : List Value}
set_option maxHeartbeats 4000000 in
set_option maxRecDepth 100000 in
theorem kX11_hosts_L14 (C : Ctx p l e (rmL 0) s m args below meth c D (tyz cI cJ cB cZ) (wM ad cI cJ cB cZ) A cX11_hosts 3 0 RX11) (hr : meth.sig.returnType = some .boolean) {res : Int32 × ST}   : ∀ (n : Nat) (x1 : Int32) (x2 : Int32) (σ : ST), fX11_hosts_L14 n x1 x2 σ = some res → G p l e (rmL 0) s m args below meth c (MQ below (Qi D (tyz cI cJ cB cZ) (wM ad cI cJ cB cZ) A res) args s 0 0 A) D (wM ad cI cJ cB cZ) A 3 σ 14 [(0, .ref (ad 0)), (1, .int x1), (2, .int x2)] [] := by
  intro n
  induction n with
  | zero => intro x1 x2 σ h; have h : none = some res := h; cases h
  | succ n ih =>
    intro x1 x2 σ h
    rw [fX11_hosts_L14] at h
    refine g_iload_n C dX11_hosts_14 rfl 2 rfl 15 rfl ?_
    refine g_iconst C (v := 3) dX11_hosts_15 (by decide) 16 rfl ?_
    refine g_icmp_ge C 37 dX11_hosts_16 (by decide) 19 rfl (fun c_4 => ?_) (fun c_4 => ?_)
    · have h := o_pos h c_4
      refine g_aload_n C dX11_hosts_37 rfl 0 rfl 38 rfl ?_
      refine g_iload_n C dX11_hosts_38 rfl 1 rfl 39 rfl ?_
      obtain ⟨σ_5, eσ_5, h⟩ := o_lt h
      refine wpX11_168_0 C eσ_5 dX11_hosts_39 42 rfl ?_
      refine g_iconst C (v := 1) dX11_hosts_42 (by decide) 43 rfl ?_
      exact g_zret C hr (by decide) dX11_hosts_43 h
    · have h := o_neg h c_4
      refine g_aload_n C dX11_hosts_19 rfl 0 rfl 20 rfl ?_
      refine wgX11_116_0 C dX11_hosts_20 23 rfl ?_
      refine g_iload_n C dX11_hosts_23 rfl 2 rfl 24 rfl ?_
      obtain ⟨c_6, h⟩ := o_chk h
      refine wlM_33 C c_6 dX11_hosts_24 25 rfl ?_
      refine g_iconst C (v := -1) dX11_hosts_25 (by decide) 26 rfl ?_
      refine g_icmp_eq C 31 dX11_hosts_26 (by decide) 29 rfl (fun c_7 => ?_) (fun c_7 => ?_)
      · have h := o_pos h c_7
        obtain ⟨x2_8, ex2_8, h⟩ := o_lt h
        refine g_iinc C (lv' := [(2, .int x2_8), (0, .ref (ad 0)), (1, .int x1)]) ex2_8 dX11_hosts_31 2 rfl (by decide) (by decide) rfl 34 rfl ?_
        refine g_goto C 14 dX11_hosts_34 (by decide) ?_
        exact g_sub C [1, 2, 0] rfl (ih x1 x2_8 σ h)
      · have h := o_neg h c_7
        refine g_iconst C (v := 0) dX11_hosts_29 (by decide) 30 rfl ?_
        exact g_zret C hr (by decide) dX11_hosts_30 h
set_option maxHeartbeats 4000000 in
set_option maxRecDepth 100000 in
theorem kX11_hosts {l : Launch} {D : va_G} {ad : Nat → Nat} {cI cJ cB cZ : ClassId}  {n : Nat} {x1 : Int32} {σ : ST} {res : Int32 × ST} (h : fX11_hosts n x1 σ = some res) : CMi l D (tyz cI cJ cB cZ) (wM ad cI cJ cB cZ) 0 yX11_hosts cX11_hosts 3 (some .boolean) [.ref (ad 0), .int x1] σ res := by
  refine cmi_body (own := RX11) (lv := [(0, .ref (ad 0)), (1, .int x1)]) (by decide) rfl (wM_addr _ _ _ _ _) (Nat.le_of_ble_eq_true rfl) rfl (fun p e s m args below meth c A C hr => ?_)
  unfold fX11_hosts at h
  refine g_iload_n C dX11_hosts_0 rfl 1 rfl 1 rfl ?_
  refine g_iconst C (v := 1) dX11_hosts_1 (by decide) 2 rfl ?_
  refine g_icmp_lt C 10 dX11_hosts_2 (by decide) 5 rfl (fun c_1 => ?_) (fun c_1 => ?_)
  · have h := o_pos h c_1
    refine g_iconst C (v := 0) dX11_hosts_10 (by decide) 11 rfl ?_
    exact g_zret C hr (by decide) dX11_hosts_11 h
  · have h := o_neg h c_1
    refine g_iload_n C dX11_hosts_5 rfl 1 rfl 6 rfl ?_
    refine g_iconst C (v := 3) dX11_hosts_6 (by decide) 7 rfl ?_
    refine g_icmp_le C 12 dX11_hosts_7 (by decide) 10 rfl (fun c_2 => ?_) (fun c_2 => ?_)
    · have h := o_pos h c_2
      refine g_iconst C (v := 0) dX11_hosts_12 (by decide) 13 rfl ?_
      obtain ⟨x2_3, ex2_3, h⟩ := o_lt h
      refine g_istore_n C (lv' := [(2, .int x2_3), (0, .ref (ad 0)), (1, .int x1)]) ex2_3 dX11_hosts_13 rfl (by decide) rfl 14 rfl ?_
      exact g_sub C [1, 2, 0] rfl (kX11_hosts_L14 C hr  n x1 x2_3 σ h)
    · have h := o_neg h c_2
      refine g_iconst C (v := 0) dX11_hosts_10 (by decide) 11 rfl ?_
      exact g_zret C hr (by decide) dX11_hosts_11 h
end WK
/-! X11_isAtHost private boolean isAtHost(int); -/
def fX11_isAtHost_L2  : Nat → Int32 → Int32 → ST → Option (Int32 × ST)
  | 0, _, _, _ => none
  | n + 1, x1, x2, σ => (if ((3 : Int32)) ≤ x2 then (some ((0 : Int32), σ)) else (if ix x2 3 then (if (ldA σ 33 x2) = x1 then (some ((1 : Int32), σ)) else (lt (x2 + 1) (fun x2_5 => (fX11_isAtHost_L2 n x1 x2_5 σ)))) else none))
def fX11_isAtHost (n : Nat) (x1 : Int32) (σ : ST) : Option (Int32 × ST) :=
  (lt ((0 : Int32)) (fun x2_1 => (fX11_isAtHost_L2 n x1 x2_1 σ)))
section WK
variable {p : Program} {l : Launch} {e : Env} {R : Room} {s : State} {m : MethodId} {args : Array Value} {below : List Frame} {meth : Method} {c : Code} {Q : State → Prop}
variable {D : va_G} {ad : Nat → Nat} {cI cJ cB cZ : ClassId} {A : Nat → Prop} {cc : ByteArray} {nL lev : Nat}
variable {σ : ST} {pc : Nat} {lv : List (Nat × Value)} {st : List Value}
set_option maxHeartbeats 4000000 in
set_option maxRecDepth 100000 in
theorem kX11_isAtHost_L2 (C : Ctx p l e (rmL 0) s m args below meth c D (tyz cI cJ cB cZ) (wM ad cI cJ cB cZ) A cX11_isAtHost 3 0 RX11) (hr : meth.sig.returnType = some .boolean) {res : Int32 × ST}   : ∀ (n : Nat) (x1 : Int32) (x2 : Int32) (σ : ST), fX11_isAtHost_L2 n x1 x2 σ = some res → G p l e (rmL 0) s m args below meth c (MQ below (Qi D (tyz cI cJ cB cZ) (wM ad cI cJ cB cZ) A res) args s 0 0 A) D (wM ad cI cJ cB cZ) A 3 σ 2 [(0, .ref (ad 0)), (1, .int x1), (2, .int x2)] [] := by
  intro n
  induction n with
  | zero => intro x1 x2 σ h; have h : none = some res := h; cases h
  | succ n ih =>
    intro x1 x2 σ h
    rw [fX11_isAtHost_L2] at h
    refine g_iload_n C dX11_isAtHost_2 rfl 2 rfl 3 rfl ?_
    refine g_iconst C (v := 3) dX11_isAtHost_3 (by decide) 4 rfl ?_
    refine g_icmp_ge C 25 dX11_isAtHost_4 (by decide) 7 rfl (fun c_2 => ?_) (fun c_2 => ?_)
    · have h := o_pos h c_2
      refine g_iconst C (v := 0) dX11_isAtHost_25 (by decide) 26 rfl ?_
      exact g_zret C hr (by decide) dX11_isAtHost_26 h
    · have h := o_neg h c_2
      refine g_aload_n C dX11_isAtHost_7 rfl 0 rfl 8 rfl ?_
      refine wgX11_116_0 C dX11_isAtHost_8 11 rfl ?_
      refine g_iload_n C dX11_isAtHost_11 rfl 2 rfl 12 rfl ?_
      obtain ⟨c_3, h⟩ := o_chk h
      refine wlM_33 C c_3 dX11_isAtHost_12 13 rfl ?_
      refine g_iload_n C dX11_isAtHost_13 rfl 1 rfl 14 rfl ?_
      refine g_icmp_ne C 19 dX11_isAtHost_14 (by decide) 17 rfl (fun c_4 => ?_) (fun c_4 => ?_)
      · have h := o_neg h c_4
        obtain ⟨x2_5, ex2_5, h⟩ := o_lt h
        refine g_iinc C (lv' := [(2, .int x2_5), (0, .ref (ad 0)), (1, .int x1)]) ex2_5 dX11_isAtHost_19 2 rfl (by decide) (by decide) rfl 22 rfl ?_
        refine g_goto C 2 dX11_isAtHost_22 (by decide) ?_
        exact g_sub C [1, 2, 0] rfl (ih x1 x2_5 σ h)
      · have h := o_pos h c_4
        refine g_iconst C (v := 1) dX11_isAtHost_17 (by decide) 18 rfl ?_
        exact g_zret C hr (by decide) dX11_isAtHost_18 h
set_option maxHeartbeats 4000000 in
set_option maxRecDepth 100000 in
theorem kX11_isAtHost {l : Launch} {D : va_G} {ad : Nat → Nat} {cI cJ cB cZ : ClassId}  {n : Nat} {x1 : Int32} {σ : ST} {res : Int32 × ST} (h : fX11_isAtHost n x1 σ = some res) : CMi l D (tyz cI cJ cB cZ) (wM ad cI cJ cB cZ) 0 yX11_isAtHost cX11_isAtHost 3 (some .boolean) [.ref (ad 0), .int x1] σ res := by
  refine cmi_body (own := RX11) (lv := [(0, .ref (ad 0)), (1, .int x1)]) (by decide) rfl (wM_addr _ _ _ _ _) (Nat.le_of_ble_eq_true rfl) rfl (fun p e s m args below meth c A C hr => ?_)
  unfold fX11_isAtHost at h
  refine g_iconst C (v := 0) dX11_isAtHost_0 (by decide) 1 rfl ?_
  obtain ⟨x2_1, ex2_1, h⟩ := o_lt h
  refine g_istore_n C (lv' := [(2, .int x2_1), (0, .ref (ad 0)), (1, .int x1)]) ex2_1 dX11_isAtHost_1 rfl (by decide) rfl 2 rfl ?_
  exact g_sub C [1, 2, 0] rfl (kX11_isAtHost_L2 C hr  n x1 x2_1 σ h)
end WK
/-! X11_isReady private boolean isReady(int); -/
def fX11_isReady_L22 (k67 : Int32 → ST → Option (Int32 × ST)) : Nat → Int32 → Int32 → ST → Option (Int32 × ST)
  | 0, _, _, _ => none
  | n + 1, x1, x2, σ => (if ((6 : Int32)) ≤ x2 then (k67 x1 σ) else (if ix ((((7 : Int32)) * (gI σ 11)) + x1) 14 then (if (((ldA σ 16 ((((7 : Int32)) * (gI σ 11)) + x1)) >>> (x2 &&& 31)) &&& ((1 : Int32))) = ((1 : Int32)) then (if ix x2 6 then (if (ldA σ 24 x2) = 0 then (some ((0 : Int32), σ)) else (lt (x2 + 1) (fun x2_12 => (fX11_isReady_L22 k67 n x1 x2_12 σ)))) else none) else (lt (x2 + 1) (fun x2_9 => (fX11_isReady_L22 k67 n x1 x2_9 σ)))) else none))
def fX11_isReady_L69  : Nat → Int32 → Int32 → ST → Option (Int32 × ST)
  | 0, _, _, _ => none
  | n + 1, x1, x2, σ => (if x1 ≤ x2 then (some ((1 : Int32), σ)) else (if ix ((((7 : Int32)) * (gI σ 11)) + x1) 14 then (if (((ldA σ 17 ((((7 : Int32)) * (gI σ 11)) + x1)) >>> (x2 &&& 31)) &&& ((1 : Int32))) = ((1 : Int32)) then (if ix x2 7 then (if (ldA σ 35 x2) = ((-1 : Int32)) then (some ((0 : Int32), σ)) else (lt (x2 + 1) (fun x2_22 => (fX11_isReady_L69 n x1 x2_22 σ)))) else none) else (lt (x2 + 1) (fun x2_19 => (fX11_isReady_L69 n x1 x2_19 σ)))) else none))
def fX11_isReady (n : Nat) (x1 : Int32) (σ : ST) : Option (Int32 × ST) :=
  (if ix x1 7 then (if (ldA σ 35 x1) = ((-1 : Int32)) then (Option.bind (fX11_isAtHost n x1 σ) (fun q_3 => (if q_3.1 = 0 then (lt ((0 : Int32)) (fun x2_5 => (fX11_isReady_L22 (fun (x1_13 : Int32) (σ_14 : ST) => (lt ((0 : Int32)) (fun x2_15 => (fX11_isReady_L69 n x1_13 x2_15 σ_14)))) n x1 x2_5 q_3.2))) else (some ((0 : Int32), q_3.2))))) else (some ((0 : Int32), σ))) else none)
section WK
variable {p : Program} {l : Launch} {e : Env} {R : Room} {s : State} {m : MethodId} {args : Array Value} {below : List Frame} {meth : Method} {c : Code} {Q : State → Prop}
variable {D : va_G} {ad : Nat → Nat} {cI cJ cB cZ : ClassId} {A : Nat → Prop} {cc : ByteArray} {nL lev : Nat}
variable {σ : ST} {pc : Nat} {lv : List (Nat × Value)} {st : List Value}
set_option maxHeartbeats 4000000 in
set_option maxRecDepth 100000 in
theorem kX11_isReady_L22 (C : Ctx p l e (rmL 1) s m args below meth c D (tyz cI cJ cB cZ) (wM ad cI cJ cB cZ) A cX11_isReady 3 1 RX11) (hr : meth.sig.returnType = some .boolean) {res : Int32 × ST} {k67 : Int32 → ST → Option (Int32 × ST)} (hk67 : ∀ (x1 : Int32) (σ : ST), k67 x1 σ = some res → G p l e (rmL 1) s m args below meth c (MQ below (Qi D (tyz cI cJ cB cZ) (wM ad cI cJ cB cZ) A res) args s 0 0 A) D (wM ad cI cJ cB cZ) A 3 σ 67 [(0, .ref (ad 0)), (1, .int x1)] []) : ∀ (n : Nat) (x1 : Int32) (x2 : Int32) (σ : ST), fX11_isReady_L22 k67 n x1 x2 σ = some res → G p l e (rmL 1) s m args below meth c (MQ below (Qi D (tyz cI cJ cB cZ) (wM ad cI cJ cB cZ) A res) args s 0 0 A) D (wM ad cI cJ cB cZ) A 3 σ 22 [(0, .ref (ad 0)), (1, .int x1), (2, .int x2)] [] := by
  intro n
  induction n with
  | zero => intro x1 x2 σ h; have h : none = some res := h; cases h
  | succ n ih =>
    intro x1 x2 σ h
    rw [fX11_isReady_L22] at h
    refine g_iload_n C dX11_isReady_22 rfl 2 rfl 23 rfl ?_
    refine g_bipush C (v := 6) dX11_isReady_23 (by decide) 25 rfl ?_
    refine g_icmp_ge C 67 dX11_isReady_25 (by decide) 28 rfl (fun c_6 => ?_) (fun c_6 => ?_)
    · have h := o_pos h c_6
      exact g_sub C [0, 1] rfl (hk67 x1 σ h)
    · have h := o_neg h c_6
      refine g_aload_n C dX11_isReady_28 rfl 0 rfl 29 rfl ?_
      refine wgX11_65_0 C dX11_isReady_29 32 rfl ?_
      refine g_bipush C (v := 7) dX11_isReady_32 (by decide) 34 rfl ?_
      refine g_aload_n C dX11_isReady_34 rfl 0 rfl 35 rfl ?_
      refine wgX11_234_0 C dX11_isReady_35 38 rfl ?_
      refine g_imul C dX11_isReady_38 39 rfl ?_
      refine g_iload_n C dX11_isReady_39 rfl 1 rfl 40 rfl ?_
      refine g_iadd C dX11_isReady_40 41 rfl ?_
      obtain ⟨c_7, h⟩ := o_chk h
      refine wlM_16 C c_7 dX11_isReady_41 42 rfl ?_
      refine g_iload_n C dX11_isReady_42 rfl 2 rfl 43 rfl ?_
      refine g_ishr C dX11_isReady_43 44 rfl ?_
      refine g_iconst C (v := 1) dX11_isReady_44 (by decide) 45 rfl ?_
      refine g_iand C dX11_isReady_45 46 rfl ?_
      refine g_iconst C (v := 1) dX11_isReady_46 (by decide) 47 rfl ?_
      refine g_icmp_ne C 61 dX11_isReady_47 (by decide) 50 rfl (fun c_8 => ?_) (fun c_8 => ?_)
      · have h := o_neg h c_8
        obtain ⟨x2_9, ex2_9, h⟩ := o_lt h
        refine g_iinc C (lv' := [(2, .int x2_9), (0, .ref (ad 0)), (1, .int x1)]) ex2_9 dX11_isReady_61 2 rfl (by decide) (by decide) rfl 64 rfl ?_
        refine g_goto C 22 dX11_isReady_64 (by decide) ?_
        exact g_sub C [1, 2, 0] rfl (ih x1 x2_9 σ h)
      · have h := o_pos h c_8
        refine g_aload_n C dX11_isReady_50 rfl 0 rfl 51 rfl ?_
        refine wgX11_89_0 C dX11_isReady_51 54 rfl ?_
        refine g_iload_n C dX11_isReady_54 rfl 2 rfl 55 rfl ?_
        obtain ⟨c_10, h⟩ := o_chk h
        refine wlM_24 C c_10 dX11_isReady_55 56 rfl ?_
        refine g_if_ne C 61 dX11_isReady_56 (by decide) 59 rfl (fun c_11 => ?_) (fun c_11 => ?_)
        · have h := o_neg h c_11
          obtain ⟨x2_12, ex2_12, h⟩ := o_lt h
          refine g_iinc C (lv' := [(2, .int x2_12), (0, .ref (ad 0)), (1, .int x1)]) ex2_12 dX11_isReady_61 2 rfl (by decide) (by decide) rfl 64 rfl ?_
          refine g_goto C 22 dX11_isReady_64 (by decide) ?_
          exact g_sub C [1, 2, 0] rfl (ih x1 x2_12 σ h)
        · have h := o_pos h c_11
          refine g_iconst C (v := 0) dX11_isReady_59 (by decide) 60 rfl ?_
          exact g_zret C hr (by decide) dX11_isReady_60 h
set_option maxHeartbeats 4000000 in
set_option maxRecDepth 100000 in
theorem kX11_isReady_L69 (C : Ctx p l e (rmL 1) s m args below meth c D (tyz cI cJ cB cZ) (wM ad cI cJ cB cZ) A cX11_isReady 3 1 RX11) (hr : meth.sig.returnType = some .boolean) {res : Int32 × ST}   : ∀ (n : Nat) (x1 : Int32) (x2 : Int32) (σ : ST), fX11_isReady_L69 n x1 x2 σ = some res → G p l e (rmL 1) s m args below meth c (MQ below (Qi D (tyz cI cJ cB cZ) (wM ad cI cJ cB cZ) A res) args s 0 0 A) D (wM ad cI cJ cB cZ) A 3 σ 69 [(0, .ref (ad 0)), (1, .int x1), (2, .int x2)] [] := by
  intro n
  induction n with
  | zero => intro x1 x2 σ h; have h : none = some res := h; cases h
  | succ n ih =>
    intro x1 x2 σ h
    rw [fX11_isReady_L69] at h
    refine g_iload_n C dX11_isReady_69 rfl 2 rfl 70 rfl ?_
    refine g_iload_n C dX11_isReady_70 rfl 1 rfl 71 rfl ?_
    refine g_icmp_ge C 114 dX11_isReady_71 (by decide) 74 rfl (fun c_16 => ?_) (fun c_16 => ?_)
    · have h := o_pos h c_16
      refine g_iconst C (v := 1) dX11_isReady_114 (by decide) 115 rfl ?_
      exact g_zret C hr (by decide) dX11_isReady_115 h
    · have h := o_neg h c_16
      refine g_aload_n C dX11_isReady_74 rfl 0 rfl 75 rfl ?_
      refine wgX11_68_0 C dX11_isReady_75 78 rfl ?_
      refine g_bipush C (v := 7) dX11_isReady_78 (by decide) 80 rfl ?_
      refine g_aload_n C dX11_isReady_80 rfl 0 rfl 81 rfl ?_
      refine wgX11_234_0 C dX11_isReady_81 84 rfl ?_
      refine g_imul C dX11_isReady_84 85 rfl ?_
      refine g_iload_n C dX11_isReady_85 rfl 1 rfl 86 rfl ?_
      refine g_iadd C dX11_isReady_86 87 rfl ?_
      obtain ⟨c_17, h⟩ := o_chk h
      refine wlM_17 C c_17 dX11_isReady_87 88 rfl ?_
      refine g_iload_n C dX11_isReady_88 rfl 2 rfl 89 rfl ?_
      refine g_ishr C dX11_isReady_89 90 rfl ?_
      refine g_iconst C (v := 1) dX11_isReady_90 (by decide) 91 rfl ?_
      refine g_iand C dX11_isReady_91 92 rfl ?_
      refine g_iconst C (v := 1) dX11_isReady_92 (by decide) 93 rfl ?_
      refine g_icmp_ne C 108 dX11_isReady_93 (by decide) 96 rfl (fun c_18 => ?_) (fun c_18 => ?_)
      · have h := o_neg h c_18
        obtain ⟨x2_19, ex2_19, h⟩ := o_lt h
        refine g_iinc C (lv' := [(2, .int x2_19), (0, .ref (ad 0)), (1, .int x1)]) ex2_19 dX11_isReady_108 2 rfl (by decide) (by decide) rfl 111 rfl ?_
        refine g_goto C 69 dX11_isReady_111 (by decide) ?_
        exact g_sub C [1, 2, 0] rfl (ih x1 x2_19 σ h)
      · have h := o_pos h c_18
        refine g_aload_n C dX11_isReady_96 rfl 0 rfl 97 rfl ?_
        refine wgX11_122_0 C dX11_isReady_97 100 rfl ?_
        refine g_iload_n C dX11_isReady_100 rfl 2 rfl 101 rfl ?_
        obtain ⟨c_20, h⟩ := o_chk h
        refine wlM_35 C c_20 dX11_isReady_101 102 rfl ?_
        refine g_iconst C (v := -1) dX11_isReady_102 (by decide) 103 rfl ?_
        refine g_icmp_ne C 108 dX11_isReady_103 (by decide) 106 rfl (fun c_21 => ?_) (fun c_21 => ?_)
        · have h := o_neg h c_21
          obtain ⟨x2_22, ex2_22, h⟩ := o_lt h
          refine g_iinc C (lv' := [(2, .int x2_22), (0, .ref (ad 0)), (1, .int x1)]) ex2_22 dX11_isReady_108 2 rfl (by decide) (by decide) rfl 111 rfl ?_
          refine g_goto C 69 dX11_isReady_111 (by decide) ?_
          exact g_sub C [1, 2, 0] rfl (ih x1 x2_22 σ h)
        · have h := o_pos h c_21
          refine g_iconst C (v := 0) dX11_isReady_106 (by decide) 107 rfl ?_
          exact g_zret C hr (by decide) dX11_isReady_107 h
set_option maxHeartbeats 4000000 in
set_option maxRecDepth 100000 in
theorem kX11_isReady {l : Launch} {D : va_G} {ad : Nat → Nat} {cI cJ cB cZ : ClassId}  {n : Nat} {x1 : Int32} {σ : ST} {res : Int32 × ST} (h : fX11_isReady n x1 σ = some res) : CMi l D (tyz cI cJ cB cZ) (wM ad cI cJ cB cZ) 1 yX11_isReady cX11_isReady 3 (some .boolean) [.ref (ad 0), .int x1] σ res := by
  refine cmi_body (own := RX11) (lv := [(0, .ref (ad 0)), (1, .int x1)]) (by decide) rfl (wM_addr _ _ _ _ _) (Nat.le_of_ble_eq_true rfl) rfl (fun p e s m args below meth c A C hr => ?_)
  unfold fX11_isReady at h
  refine g_aload_n C dX11_isReady_0 rfl 0 rfl 1 rfl ?_
  refine wgX11_122_0 C dX11_isReady_1 4 rfl ?_
  refine g_iload_n C dX11_isReady_4 rfl 1 rfl 5 rfl ?_
  obtain ⟨c_1, h⟩ := o_chk h
  refine wlM_35 C c_1 dX11_isReady_5 6 rfl ?_
  refine g_iconst C (v := -1) dX11_isReady_6 (by decide) 7 rfl ?_
  refine g_icmp_ne C 18 dX11_isReady_7 (by decide) 10 rfl (fun c_2 => ?_) (fun c_2 => ?_)
  · have h := o_neg h c_2
    refine g_iconst C (v := 0) dX11_isReady_18 (by decide) 19 rfl ?_
    exact g_zret C hr (by decide) dX11_isReady_19 h
  · have h := o_pos h c_2
    refine g_aload_n C dX11_isReady_10 rfl 0 rfl 11 rfl ?_
    refine g_iload_n C dX11_isReady_11 rfl 1 rfl 12 rfl ?_
    obtain ⟨q_3, hq_3, h⟩ := o_bind h
    refine wcX11_311_M_0 C (kX11_isAtHost hq_3) (by decide) (Nat.le_of_ble_eq_true rfl) dX11_isReady_12 15 rfl ?_
    refine g_if_eq C 20 dX11_isReady_15 (by decide) 18 rfl (fun c_4 => ?_) (fun c_4 => ?_)
    · have h := o_pos h c_4
      refine g_iconst C (v := 0) dX11_isReady_20 (by decide) 21 rfl ?_
      obtain ⟨x2_5, ex2_5, h⟩ := o_lt h
      refine g_istore_n C (lv' := [(2, .int x2_5), (0, .ref (ad 0)), (1, .int x1)]) ex2_5 dX11_isReady_21 rfl (by decide) rfl 22 rfl ?_
      exact g_sub C [1, 2, 0] rfl (kX11_isReady_L22 C hr (fun x1_13 σ_14 h => by
          refine g_iconst C (v := 0) dX11_isReady_67 (by decide) 68 rfl ?_
          obtain ⟨x2_15, ex2_15, h⟩ := o_lt h
          refine g_istore_n C (lv' := [(2, .int x2_15), (0, .ref (ad 0)), (1, .int x1_13)]) ex2_15 dX11_isReady_68 rfl (by decide) rfl 69 rfl ?_
          exact g_sub C [1, 2, 0] rfl (kX11_isReady_L69 C hr  n x1_13 x2_15 σ_14 h)) n x1 x2_5 q_3.2 h)
    · have h := o_neg h c_4
      refine g_iconst C (v := 0) dX11_isReady_18 (by decide) 19 rfl ?_
      exact g_zret C hr (by decide) dX11_isReady_19 h
end WK
/-! X11_ofRows private long ofRows(int, int, int); -/
def fX11_ofRows_L12  : Nat → Int32 → Int32 → Int32 → Int64 → Int32 → Int32 → ST → Option (Int64 × ST)
  | 0, _, _, _, _, _, _, _ => none
  | n + 1, x1, x2, x3, x4, x6, x7, σ => (if ix x2 6 then (if ((((40 : Int32)) * x2) + (ldA σ 28 x2)) ≤ x7 then (some (x4, σ)) else (if ix x7 240 then (if (ldA σ 29 x7) = x3 then (if x1 = ((1 : Int32)) then (if ix x7 240 then (lt (x4 + ((ldA σ 30 x7).toInt64)) (fun x4_28 => (lt ((1 : Int32)) (fun x6_29 => (lt (x7 + 1) (fun x7_30 => (fX11_ofRows_L12 n x1 x2 x3 x4_28 x6_29 x7_30 σ))))))) else none) else (if x1 = ((2 : Int32)) then (lt (x4 + ((1 : Int64))) (fun x4_24 => (lt ((1 : Int32)) (fun x6_25 => (lt (x7 + 1) (fun x7_26 => (fX11_ofRows_L12 n x1 x2 x3 x4_24 x6_25 x7_26 σ))))))) else (lt (fun (x1_10 : Int32) (x2_11 : Int32) (x3_12 : Int32) (x7_13 : Int32) (σ_14 : ST) => (if ix x7_13 240 then (lt ((ldA σ_14 30 x7_13).toInt64) (fun x4_16 => (lt ((1 : Int32)) (fun x6_17 => (lt (x7_13 + 1) (fun x7_18 => (fX11_ofRows_L12 n x1_10 x2_11 x3_12 x4_16 x6_17 x7_18 σ_14))))))) else none)) (fun j96 => (if x6 = 0 then (j96 x1 x2 x3 x7 σ) else (if ix x7 240 then (if (lg_cmp ((ldA σ 30 x7).toInt64) x4) ≤ 0 then (lt ((1 : Int32)) (fun x6_22 => (lt (x7 + 1) (fun x7_23 => (fX11_ofRows_L12 n x1 x2 x3 x4 x6_22 x7_23 σ))))) else (j96 x1 x2 x3 x7 σ)) else none)))))) else (lt (x7 + 1) (fun x7_31 => (fX11_ofRows_L12 n x1 x2 x3 x4 x6 x7_31 σ)))) else none)) else none)
def fX11_ofRows (n : Nat) (x1 : Int32) (x2 : Int32) (x3 : Int32) (σ : ST) : Option (Int64 × ST) :=
  (lt ((0 : Int64)) (fun x4_1 => (lt ((0 : Int32)) (fun x6_2 => (lt (((40 : Int32)) * x2) (fun x7_3 => (fX11_ofRows_L12 n x1 x2 x3 x4_1 x6_2 x7_3 σ)))))))
section WK
variable {p : Program} {l : Launch} {e : Env} {R : Room} {s : State} {m : MethodId} {args : Array Value} {below : List Frame} {meth : Method} {c : Code} {Q : State → Prop}
variable {D : va_G} {ad : Nat → Nat} {cI cJ cB cZ : ClassId} {A : Nat → Prop} {cc : ByteArray} {nL lev : Nat}
variable {σ : ST} {pc : Nat} {lv : List (Nat × Value)} {st : List Value}
set_option maxHeartbeats 4000000 in
set_option maxRecDepth 100000 in
theorem kX11_ofRows_L12 (C : Ctx p l e (rmL 0) s m args below meth c D (tyz cI cJ cB cZ) (wM ad cI cJ cB cZ) A cX11_ofRows 8 0 RX11) (hr : meth.sig.returnType = some .long) {res : Int64 × ST}   : ∀ (n : Nat) (x1 : Int32) (x2 : Int32) (x3 : Int32) (x4 : Int64) (x6 : Int32) (x7 : Int32) (σ : ST), fX11_ofRows_L12 n x1 x2 x3 x4 x6 x7 σ = some res → G p l e (rmL 0) s m args below meth c (MQ below (Ql D (tyz cI cJ cB cZ) (wM ad cI cJ cB cZ) A res) args s 0 0 A) D (wM ad cI cJ cB cZ) A 8 σ 12 [(0, .ref (ad 0)), (1, .int x1), (2, .int x2), (3, .int x3), (4, .long x4), (6, .int x6), (7, .int x7)] [] := by
  intro n
  induction n with
  | zero => intro x1 x2 x3 x4 x6 x7 σ h; have h : none = some res := h; cases h
  | succ n ih =>
    intro x1 x2 x3 x4 x6 x7 σ h
    rw [fX11_ofRows_L12] at h
    refine g_iload C dX11_ofRows_12 6 rfl 14 rfl ?_
    refine g_bipush C (v := 40) dX11_ofRows_14 (by decide) 16 rfl ?_
    refine g_iload_n C dX11_ofRows_16 rfl 2 rfl 17 rfl ?_
    refine g_imul C dX11_ofRows_17 18 rfl ?_
    refine g_aload_n C dX11_ofRows_18 rfl 0 rfl 19 rfl ?_
    refine wgX11_101_0 C dX11_ofRows_19 22 rfl ?_
    refine g_iload_n C dX11_ofRows_22 rfl 2 rfl 23 rfl ?_
    obtain ⟨c_4, h⟩ := o_chk h
    refine wlM_28 C c_4 dX11_ofRows_23 24 rfl ?_
    refine g_iadd C dX11_ofRows_24 25 rfl ?_
    refine g_icmp_ge C 115 dX11_ofRows_25 (by decide) 28 rfl (fun c_5 => ?_) (fun c_5 => ?_)
    · have h := o_pos h c_5
      refine g_lload C dX11_ofRows_115 4 rfl 117 rfl ?_
      exact g_lret C hr dX11_ofRows_117 h
    · have h := o_neg h c_5
      refine g_aload_n C dX11_ofRows_28 rfl 0 rfl 29 rfl ?_
      refine wgX11_104_0 C dX11_ofRows_29 32 rfl ?_
      refine g_iload C dX11_ofRows_32 6 rfl 34 rfl ?_
      obtain ⟨c_6, h⟩ := o_chk h
      refine wlM_29 C c_6 dX11_ofRows_34 35 rfl ?_
      refine g_iload_n C dX11_ofRows_35 rfl 3 rfl 36 rfl ?_
      refine g_icmp_eq C 42 dX11_ofRows_36 (by decide) 39 rfl (fun c_7 => ?_) (fun c_7 => ?_)
      · have h := o_pos h c_7
        refine g_iload_n C dX11_ofRows_42 rfl 1 rfl 43 rfl ?_
        refine g_iconst C (v := 1) dX11_ofRows_43 (by decide) 44 rfl ?_
        refine g_icmp_ne C 63 dX11_ofRows_44 (by decide) 47 rfl (fun c_8 => ?_) (fun c_8 => ?_)
        · have h := o_neg h c_8
          refine g_iload_n C dX11_ofRows_63 rfl 1 rfl 64 rfl ?_
          refine g_iconst C (v := 2) dX11_ofRows_64 (by decide) 65 rfl ?_
          refine g_icmp_ne C 77 dX11_ofRows_65 (by decide) 68 rfl (fun c_9 => ?_) (fun c_9 => ?_)
          · have h := o_neg h c_9
            refine g_iload C dX11_ofRows_77 5 rfl 79 rfl ?_
            obtain ⟨j96, ej96, h⟩ := o_lt h
            have hj96 : ∀ (x1_10 : Int32) (x2_11 : Int32) (x3_12 : Int32) (x7_13 : Int32) (σ_14 : ST), j96 x1_10 x2_11 x3_12 x7_13 σ_14 = some res → G p l e (rmL 0) s m args below meth c (MQ below (Ql D (tyz cI cJ cB cZ) (wM ad cI cJ cB cZ) A res) args s 0 0 A) D (wM ad cI cJ cB cZ) A 8 σ_14 96 [(0, .ref (ad 0)), (1, .int x1_10), (2, .int x2_11), (3, .int x3_12), (7, .int x7_13)] [] := by
              intro x1_10 x2_11 x3_12 x7_13 σ_14 h
              rw [ej96] at h
              refine g_aload_n C dX11_ofRows_96 rfl 0 rfl 97 rfl ?_
              refine wgX11_107_0 C dX11_ofRows_97 100 rfl ?_
              refine g_iload C dX11_ofRows_100 4 rfl 102 rfl ?_
              obtain ⟨c_15, h⟩ := o_chk h
              refine wlM_30 C c_15 dX11_ofRows_102 103 rfl ?_
              refine g_i2l C dX11_ofRows_103 104 rfl ?_
              obtain ⟨x4_16, ex4_16, h⟩ := o_lt h
              refine g_lstore C (lv' := [(4, .long x4_16), (0, .ref (ad 0)), (1, .int x1_10), (2, .int x2_11), (3, .int x3_12), (7, .int x7_13)]) ex4_16 dX11_ofRows_104 (by decide) rfl 106 rfl ?_
              refine g_iconst C (v := 1) dX11_ofRows_106 (by decide) 107 rfl ?_
              obtain ⟨x6_17, ex6_17, h⟩ := o_lt h
              refine g_istore C (lv' := [(6, .int x6_17), (4, .long x4_16), (0, .ref (ad 0)), (1, .int x1_10), (2, .int x2_11), (3, .int x3_12), (7, .int x7_13)]) ex6_17 dX11_ofRows_107 (by decide) rfl 109 rfl ?_
              obtain ⟨x7_18, ex7_18, h⟩ := o_lt h
              refine g_iinc C (lv' := [(7, .int x7_18), (6, .int x6_17), (4, .long x4_16), (0, .ref (ad 0)), (1, .int x1_10), (2, .int x2_11), (3, .int x3_12)]) ex7_18 dX11_ofRows_109 6 rfl (by decide) (by decide) rfl 112 rfl ?_
              refine g_goto C 12 dX11_ofRows_112 (by decide) ?_
              exact g_sub C [3, 4, 5, 6, 2, 1, 0] rfl (ih x1_10 x2_11 x3_12 x4_16 x6_17 x7_18 σ_14 h)
            refine g_if_eq C 96 dX11_ofRows_79 (by decide) 82 rfl (fun c_19 => ?_) (fun c_19 => ?_)
            · have h := o_pos h c_19
              exact g_sub C [0, 1, 2, 3, 6] rfl (hj96 x1 x2 x3 x7 σ h)
            · have h := o_neg h c_19
              refine g_aload_n C dX11_ofRows_82 rfl 0 rfl 83 rfl ?_
              refine wgX11_107_0 C dX11_ofRows_83 86 rfl ?_
              refine g_iload C dX11_ofRows_86 6 rfl 88 rfl ?_
              obtain ⟨c_20, h⟩ := o_chk h
              refine wlM_30 C c_20 dX11_ofRows_88 89 rfl ?_
              refine g_i2l C dX11_ofRows_89 90 rfl ?_
              refine g_lload C dX11_ofRows_90 4 rfl 92 rfl ?_
              refine g_lcmp C dX11_ofRows_92 93 rfl ?_
              refine g_if_le C 106 dX11_ofRows_93 (by decide) 96 rfl (fun c_21 => ?_) (fun c_21 => ?_)
              · have h := o_pos h c_21
                refine g_iconst C (v := 1) dX11_ofRows_106 (by decide) 107 rfl ?_
                obtain ⟨x6_22, ex6_22, h⟩ := o_lt h
                refine g_istore C (lv' := [(6, .int x6_22), (0, .ref (ad 0)), (1, .int x1), (2, .int x2), (3, .int x3), (4, .long x4), (7, .int x7)]) ex6_22 dX11_ofRows_107 (by decide) rfl 109 rfl ?_
                obtain ⟨x7_23, ex7_23, h⟩ := o_lt h
                refine g_iinc C (lv' := [(7, .int x7_23), (6, .int x6_22), (0, .ref (ad 0)), (1, .int x1), (2, .int x2), (3, .int x3), (4, .long x4)]) ex7_23 dX11_ofRows_109 6 rfl (by decide) (by decide) rfl 112 rfl ?_
                refine g_goto C 12 dX11_ofRows_112 (by decide) ?_
                exact g_sub C [2, 3, 4, 5, 6, 1, 0] rfl (ih x1 x2 x3 x4 x6_22 x7_23 σ h)
              · have h := o_neg h c_21
                exact g_sub C [0, 1, 2, 3, 6] rfl (hj96 x1 x2 x3 x7 σ h)
          · have h := o_pos h c_9
            refine g_lload C dX11_ofRows_68 4 rfl 70 rfl ?_
            refine g_lconst C (v := 1) dX11_ofRows_70 (by decide) 71 rfl ?_
            refine g_ladd C dX11_ofRows_71 72 rfl ?_
            obtain ⟨x4_24, ex4_24, h⟩ := o_lt h
            refine g_lstore C (lv' := [(4, .long x4_24), (0, .ref (ad 0)), (1, .int x1), (2, .int x2), (3, .int x3), (6, .int x6), (7, .int x7)]) ex4_24 dX11_ofRows_72 (by decide) rfl 74 rfl ?_
            refine g_goto C 106 dX11_ofRows_74 (by decide) ?_
            refine g_iconst C (v := 1) dX11_ofRows_106 (by decide) 107 rfl ?_
            obtain ⟨x6_25, ex6_25, h⟩ := o_lt h
            refine g_istore C (lv' := [(6, .int x6_25), (4, .long x4_24), (0, .ref (ad 0)), (1, .int x1), (2, .int x2), (3, .int x3), (7, .int x7)]) ex6_25 dX11_ofRows_107 (by decide) rfl 109 rfl ?_
            obtain ⟨x7_26, ex7_26, h⟩ := o_lt h
            refine g_iinc C (lv' := [(7, .int x7_26), (6, .int x6_25), (4, .long x4_24), (0, .ref (ad 0)), (1, .int x1), (2, .int x2), (3, .int x3)]) ex7_26 dX11_ofRows_109 6 rfl (by decide) (by decide) rfl 112 rfl ?_
            refine g_goto C 12 dX11_ofRows_112 (by decide) ?_
            exact g_sub C [3, 4, 5, 6, 2, 1, 0] rfl (ih x1 x2 x3 x4_24 x6_25 x7_26 σ h)
        · have h := o_pos h c_8
          refine g_lload C dX11_ofRows_47 4 rfl 49 rfl ?_
          refine g_aload_n C dX11_ofRows_49 rfl 0 rfl 50 rfl ?_
          refine wgX11_107_0 C dX11_ofRows_50 53 rfl ?_
          refine g_iload C dX11_ofRows_53 6 rfl 55 rfl ?_
          obtain ⟨c_27, h⟩ := o_chk h
          refine wlM_30 C c_27 dX11_ofRows_55 56 rfl ?_
          refine g_i2l C dX11_ofRows_56 57 rfl ?_
          refine g_ladd C dX11_ofRows_57 58 rfl ?_
          obtain ⟨x4_28, ex4_28, h⟩ := o_lt h
          refine g_lstore C (lv' := [(4, .long x4_28), (0, .ref (ad 0)), (1, .int x1), (2, .int x2), (3, .int x3), (6, .int x6), (7, .int x7)]) ex4_28 dX11_ofRows_58 (by decide) rfl 60 rfl ?_
          refine g_goto C 106 dX11_ofRows_60 (by decide) ?_
          refine g_iconst C (v := 1) dX11_ofRows_106 (by decide) 107 rfl ?_
          obtain ⟨x6_29, ex6_29, h⟩ := o_lt h
          refine g_istore C (lv' := [(6, .int x6_29), (4, .long x4_28), (0, .ref (ad 0)), (1, .int x1), (2, .int x2), (3, .int x3), (7, .int x7)]) ex6_29 dX11_ofRows_107 (by decide) rfl 109 rfl ?_
          obtain ⟨x7_30, ex7_30, h⟩ := o_lt h
          refine g_iinc C (lv' := [(7, .int x7_30), (6, .int x6_29), (4, .long x4_28), (0, .ref (ad 0)), (1, .int x1), (2, .int x2), (3, .int x3)]) ex7_30 dX11_ofRows_109 6 rfl (by decide) (by decide) rfl 112 rfl ?_
          refine g_goto C 12 dX11_ofRows_112 (by decide) ?_
          exact g_sub C [3, 4, 5, 6, 2, 1, 0] rfl (ih x1 x2 x3 x4_28 x6_29 x7_30 σ h)
      · have h := o_neg h c_7
        refine g_goto C 109 dX11_ofRows_39 (by decide) ?_
        obtain ⟨x7_31, ex7_31, h⟩ := o_lt h
        refine g_iinc C (lv' := [(7, .int x7_31), (0, .ref (ad 0)), (1, .int x1), (2, .int x2), (3, .int x3), (4, .long x4), (6, .int x6)]) ex7_31 dX11_ofRows_109 6 rfl (by decide) (by decide) rfl 112 rfl ?_
        refine g_goto C 12 dX11_ofRows_112 (by decide) ?_
        exact g_sub C [1, 2, 3, 4, 5, 6, 0] rfl (ih x1 x2 x3 x4 x6 x7_31 σ h)
set_option maxHeartbeats 4000000 in
set_option maxRecDepth 100000 in
theorem kX11_ofRows {l : Launch} {D : va_G} {ad : Nat → Nat} {cI cJ cB cZ : ClassId}  {n : Nat} {x1 : Int32} {x2 : Int32} {x3 : Int32} {σ : ST} {res : Int64 × ST} (h : fX11_ofRows n x1 x2 x3 σ = some res) : CMl l D (tyz cI cJ cB cZ) (wM ad cI cJ cB cZ) 0 yX11_ofRows cX11_ofRows 8 (some .long) [.ref (ad 0), .int x1, .int x2, .int x3] σ res := by
  refine cml_body (own := RX11) (lv := [(0, .ref (ad 0)), (1, .int x1), (2, .int x2), (3, .int x3)]) (by decide) rfl (wM_addr _ _ _ _ _) (Nat.le_of_ble_eq_true rfl) rfl (fun p e s m args below meth c A C hr => ?_)
  unfold fX11_ofRows at h
  refine g_lconst C (v := 0) dX11_ofRows_0 (by decide) 1 rfl ?_
  obtain ⟨x4_1, ex4_1, h⟩ := o_lt h
  refine g_lstore C (lv' := [(4, .long x4_1), (0, .ref (ad 0)), (1, .int x1), (2, .int x2), (3, .int x3)]) ex4_1 dX11_ofRows_1 (by decide) rfl 3 rfl ?_
  refine g_iconst C (v := 0) dX11_ofRows_3 (by decide) 4 rfl ?_
  obtain ⟨x6_2, ex6_2, h⟩ := o_lt h
  refine g_istore C (lv' := [(6, .int x6_2), (4, .long x4_1), (0, .ref (ad 0)), (1, .int x1), (2, .int x2), (3, .int x3)]) ex6_2 dX11_ofRows_4 (by decide) rfl 6 rfl ?_
  refine g_bipush C (v := 40) dX11_ofRows_6 (by decide) 8 rfl ?_
  refine g_iload_n C dX11_ofRows_8 rfl 4 rfl 9 rfl ?_
  refine g_imul C dX11_ofRows_9 10 rfl ?_
  obtain ⟨x7_3, ex7_3, h⟩ := o_lt h
  refine g_istore C (lv' := [(7, .int x7_3), (6, .int x6_2), (4, .long x4_1), (0, .ref (ad 0)), (1, .int x1), (2, .int x2), (3, .int x3)]) ex7_3 dX11_ofRows_10 (by decide) rfl 12 rfl ?_
  exact g_sub C [3, 4, 5, 6, 2, 1, 0] rfl (kX11_ofRows_L12 C hr  n x1 x2 x3 x4_1 x6_2 x7_3 σ h)
end WK
/-! X11_put_ private void put(int, int, int); -/
def fX11_put__L3  : Nat → Int32 → Int32 → Int32 → Int32 → ST → Option (ST)
  | 0, _, _, _, _, _ => none
  | n + 1, x1, x2, x3, x4, σ => (if ((8 : Int32)) ≤ x4 then (some σ) else (lt (x3.toInt64) (fun x5_3 => (lt (fun (x1_4 : Int32) (x2_5 : Int32) (x3_6 : Int32) (x4_7 : Int32) (x5_8 : Int64) (σ_9 : ST) => (lt (fun (x1_10 : Int32) (x2_11 : Int32) (x3_12 : Int32) (x4_13 : Int32) (x5_14 : Int64) (σ_15 : ST) => (if ix ((((8 : Int32)) * x1_10) + x4_13) 4000 then (lt (stB σ_15 43 ((((8 : Int32)) * x1_10) + x4_13) x5_14) (fun σ_17 => (lt (x4_13 + 1) (fun x4_18 => (fX11_put__L3 n x1_10 x2_11 x3_12 x4_18 σ_17))))) else none)) (fun j52 => (if x2_5 ≤ 0 then (j52 x1_4 x2_5 x3_6 x4_7 x5_8 σ_9) else (if ((4 : Int32)) ≤ x2_5 then (j52 x1_4 x2_5 x3_6 x4_7 x5_8 σ_9) else (Option.bind (fX11_ofRows n x2_5 x3_6 x4_7 σ_9) (fun q_21 => (lt (q_21.1) (fun x5_22 => (j52 x1_4 x2_5 x3_6 x4_7 x5_22 q_21.2)))))))))) (fun j33 => (if x2 = ((4 : Int32)) then (if ix ((((8 : Int32)) * x3) + x4) 56 then (lt (ldB σ 38 ((((8 : Int32)) * x3) + x4)) (fun x5_25 => (j33 x1 x2 x3 x4 x5_25 σ))) else none) else (j33 x1 x2 x3 x4 x5_3 σ)))))))
def fX11_put_ (n : Nat) (x1 : Int32) (x2 : Int32) (x3 : Int32) (σ : ST) : Option (ST) :=
  (lt ((0 : Int32)) (fun x4_1 => (fX11_put__L3 n x1 x2 x3 x4_1 σ)))
section WK
variable {p : Program} {l : Launch} {e : Env} {R : Room} {s : State} {m : MethodId} {args : Array Value} {below : List Frame} {meth : Method} {c : Code} {Q : State → Prop}
variable {D : va_G} {ad : Nat → Nat} {cI cJ cB cZ : ClassId} {A : Nat → Prop} {cc : ByteArray} {nL lev : Nat}
variable {σ : ST} {pc : Nat} {lv : List (Nat × Value)} {st : List Value}
set_option maxHeartbeats 4000000 in
set_option maxRecDepth 100000 in
theorem kX11_put__L3 (C : Ctx p l e (rmL 1) s m args below meth c D (tyz cI cJ cB cZ) (wM ad cI cJ cB cZ) A cX11_put_ 7 1 RX11) (hr : meth.sig.returnType = none) {res : ST}   : ∀ (n : Nat) (x1 : Int32) (x2 : Int32) (x3 : Int32) (x4 : Int32) (σ : ST), fX11_put__L3 n x1 x2 x3 x4 σ = some res → G p l e (rmL 1) s m args below meth c (MQ below (Qv D (tyz cI cJ cB cZ) (wM ad cI cJ cB cZ) A res) args s 0 0 A) D (wM ad cI cJ cB cZ) A 7 σ 3 [(0, .ref (ad 0)), (1, .int x1), (2, .int x2), (3, .int x3), (4, .int x4)] [] := by
  intro n
  induction n with
  | zero => intro x1 x2 x3 x4 σ h; have h : none = some res := h; cases h
  | succ n ih =>
    intro x1 x2 x3 x4 σ h
    rw [fX11_put__L3] at h
    refine g_iload C dX11_put__3 4 rfl 5 rfl ?_
    refine g_bipush C (v := 8) dX11_put__5 (by decide) 7 rfl ?_
    refine g_icmp_ge C 72 dX11_put__7 (by decide) 10 rfl (fun c_2 => ?_) (fun c_2 => ?_)
    · have h := o_pos h c_2
      exact g_vret C hr dX11_put__72 h
    · have h := o_neg h c_2
      refine g_iload_n C dX11_put__10 rfl 3 rfl 11 rfl ?_
      refine g_i2l C dX11_put__11 12 rfl ?_
      obtain ⟨x5_3, ex5_3, h⟩ := o_lt h
      refine g_lstore C (lv' := [(5, .long x5_3), (0, .ref (ad 0)), (1, .int x1), (2, .int x2), (3, .int x3), (4, .int x4)]) ex5_3 dX11_put__12 (by decide) rfl 14 rfl ?_
      refine g_iload_n C dX11_put__14 rfl 3 rfl 15 rfl ?_
      refine g_iconst C (v := 4) dX11_put__15 (by decide) 16 rfl ?_
      obtain ⟨j33, ej33, h⟩ := o_lt h
      have hj33 : ∀ (x1_4 : Int32) (x2_5 : Int32) (x3_6 : Int32) (x4_7 : Int32) (x5_8 : Int64) (σ_9 : ST), j33 x1_4 x2_5 x3_6 x4_7 x5_8 σ_9 = some res → G p l e (rmL 1) s m args below meth c (MQ below (Qv D (tyz cI cJ cB cZ) (wM ad cI cJ cB cZ) A res) args s 0 0 A) D (wM ad cI cJ cB cZ) A 7 σ_9 33 [(0, .ref (ad 0)), (1, .int x1_4), (2, .int x2_5), (3, .int x3_6), (4, .int x4_7), (5, .long x5_8)] [] := by
        intro x1_4 x2_5 x3_6 x4_7 x5_8 σ_9 h
        rw [ej33] at h
        refine g_iload_n C dX11_put__33 rfl 2 rfl 34 rfl ?_
        obtain ⟨j52, ej52, h⟩ := o_lt h
        have hj52 : ∀ (x1_10 : Int32) (x2_11 : Int32) (x3_12 : Int32) (x4_13 : Int32) (x5_14 : Int64) (σ_15 : ST), j52 x1_10 x2_11 x3_12 x4_13 x5_14 σ_15 = some res → G p l e (rmL 1) s m args below meth c (MQ below (Qv D (tyz cI cJ cB cZ) (wM ad cI cJ cB cZ) A res) args s 0 0 A) D (wM ad cI cJ cB cZ) A 7 σ_15 52 [(0, .ref (ad 0)), (1, .int x1_10), (2, .int x2_11), (3, .int x3_12), (4, .int x4_13), (5, .long x5_14)] [] := by
          intro x1_10 x2_11 x3_12 x4_13 x5_14 σ_15 h
          rw [ej52] at h
          refine g_aload_n C dX11_put__52 rfl 0 rfl 53 rfl ?_
          refine wgX11_146_0 C dX11_put__53 56 rfl ?_
          refine g_bipush C (v := 8) dX11_put__56 (by decide) 58 rfl ?_
          refine g_iload_n C dX11_put__58 rfl 1 rfl 59 rfl ?_
          refine g_imul C dX11_put__59 60 rfl ?_
          refine g_iload C dX11_put__60 4 rfl 62 rfl ?_
          refine g_iadd C dX11_put__62 63 rfl ?_
          refine g_lload C dX11_put__63 5 rfl 65 rfl ?_
          obtain ⟨c_16, h⟩ := o_chk h
          obtain ⟨σ_17, eσ_17, h⟩ := o_lt h
          refine wtM_43 C eσ_17 c_16 dX11_put__65 66 rfl ?_
          obtain ⟨x4_18, ex4_18, h⟩ := o_lt h
          refine g_iinc C (lv' := [(4, .int x4_18), (0, .ref (ad 0)), (1, .int x1_10), (2, .int x2_11), (3, .int x3_12), (5, .long x5_14)]) ex4_18 dX11_put__66 4 rfl (by decide) (by decide) rfl 69 rfl ?_
          refine g_goto C 3 dX11_put__69 (by decide) ?_
          exact g_sub C [1, 2, 3, 4, 0] rfl (ih x1_10 x2_11 x3_12 x4_18 σ_17 h)
        refine g_if_le C 52 dX11_put__34 (by decide) 37 rfl (fun c_19 => ?_) (fun c_19 => ?_)
        · have h := o_pos h c_19
          exact g_sub C [0, 1, 2, 3, 4, 5] rfl (hj52 x1_4 x2_5 x3_6 x4_7 x5_8 σ_9 h)
        · have h := o_neg h c_19
          refine g_iload_n C dX11_put__37 rfl 2 rfl 38 rfl ?_
          refine g_iconst C (v := 4) dX11_put__38 (by decide) 39 rfl ?_
          refine g_icmp_ge C 52 dX11_put__39 (by decide) 42 rfl (fun c_20 => ?_) (fun c_20 => ?_)
          · have h := o_pos h c_20
            exact g_sub C [0, 1, 2, 3, 4, 5] rfl (hj52 x1_4 x2_5 x3_6 x4_7 x5_8 σ_9 h)
          · have h := o_neg h c_20
            refine g_aload_n C dX11_put__42 rfl 0 rfl 43 rfl ?_
            refine g_iload_n C dX11_put__43 rfl 2 rfl 44 rfl ?_
            refine g_iload_n C dX11_put__44 rfl 3 rfl 45 rfl ?_
            refine g_iload C dX11_put__45 4 rfl 47 rfl ?_
            obtain ⟨q_21, hq_21, h⟩ := o_bind h
            refine wcX11_304_M_0 C (kX11_ofRows hq_21) (by decide) (Nat.le_of_ble_eq_true rfl) dX11_put__47 50 rfl ?_
            obtain ⟨x5_22, ex5_22, h⟩ := o_lt h
            refine g_lstore C (lv' := [(5, .long x5_22), (0, .ref (ad 0)), (1, .int x1_4), (2, .int x2_5), (3, .int x3_6), (4, .int x4_7)]) ex5_22 dX11_put__50 (by decide) rfl 52 rfl ?_
            exact g_sub C [1, 2, 3, 4, 5, 0] rfl (hj52 x1_4 x2_5 x3_6 x4_7 x5_22 q_21.2 h)
      refine g_icmp_ne C 33 dX11_put__16 (by decide) 19 rfl (fun c_23 => ?_) (fun c_23 => ?_)
      · have h := o_neg h c_23
        exact g_sub C [1, 2, 3, 4, 5, 0] rfl (hj33 x1 x2 x3 x4 x5_3 σ h)
      · have h := o_pos h c_23
        refine g_aload_n C dX11_put__19 rfl 1 rfl 20 rfl ?_
        refine wgX11_131_0 C dX11_put__20 23 rfl ?_
        refine g_bipush C (v := 8) dX11_put__23 (by decide) 25 rfl ?_
        refine g_iload_n C dX11_put__25 rfl 4 rfl 26 rfl ?_
        refine g_imul C dX11_put__26 27 rfl ?_
        refine g_iload C dX11_put__27 5 rfl 29 rfl ?_
        refine g_iadd C dX11_put__29 30 rfl ?_
        obtain ⟨c_24, h⟩ := o_chk h
        refine wlM_38 C c_24 dX11_put__30 31 rfl ?_
        obtain ⟨x5_25, ex5_25, h⟩ := o_lt h
        refine g_lstore C (lv' := [(5, .long x5_25), (0, .ref (ad 0)), (1, .int x1), (2, .int x2), (3, .int x3), (4, .int x4)]) ex5_25 dX11_put__31 (by decide) rfl 33 rfl ?_
        exact g_sub C [1, 2, 3, 4, 5, 0] rfl (hj33 x1 x2 x3 x4 x5_25 σ h)
set_option maxHeartbeats 4000000 in
set_option maxRecDepth 100000 in
theorem kX11_put_ {l : Launch} {D : va_G} {ad : Nat → Nat} {cI cJ cB cZ : ClassId}  {n : Nat} {x1 : Int32} {x2 : Int32} {x3 : Int32} {σ : ST} {res : ST} (h : fX11_put_ n x1 x2 x3 σ = some res) : CMv l D (tyz cI cJ cB cZ) (wM ad cI cJ cB cZ) 1 yX11_put_ cX11_put_ 7 none [.ref (ad 0), .int x1, .int x2, .int x3] σ res := by
  refine cmv_body (own := RX11) (lv := [(0, .ref (ad 0)), (1, .int x1), (2, .int x2), (3, .int x3)]) (by decide) rfl (wM_addr _ _ _ _ _) (Nat.le_of_ble_eq_true rfl) rfl (fun p e s m args below meth c A C hr => ?_)
  unfold fX11_put_ at h
  refine g_iconst C (v := 0) dX11_put__0 (by decide) 1 rfl ?_
  obtain ⟨x4_1, ex4_1, h⟩ := o_lt h
  refine g_istore C (lv' := [(4, .int x4_1), (0, .ref (ad 0)), (1, .int x1), (2, .int x2), (3, .int x3)]) ex4_1 dX11_put__1 (by decide) rfl 3 rfl ?_
  exact g_sub C [1, 2, 3, 4, 0] rfl (kX11_put__L3 C hr  n x1 x2 x3 x4_1 σ h)
end WK
/-! X11_works private void works(int); -/
def fX11_works_L74 (k190 : Int32 → Int32 → Int32 → ST → Option (ST)) : Nat → Int32 → Int32 → Int32 → Int32 → Int32 → ST → Option (ST)
  | 0, _, _, _, _, _, _ => none
  | n + 1, x1, x2, x3, x4, x5, σ => (if ((8 : Int32)) ≤ x5 then (k190 x1 x2 x3 σ) else (if ix ((((8 : Int32)) * (x2 - ((1 : Int32)))) + x5) 4000 then (lt (ldB σ 43 ((((8 : Int32)) * (x2 - ((1 : Int32)))) + x5)) (fun x6_13 => (if ix ((((8 : Int32)) * x2) + x5) 4000 then (lt (ldB σ 43 ((((8 : Int32)) * x2) + x5)) (fun x8_15 => (if x4 = ((5 : Int32)) then (if ix ((((8 : Int32)) * (x2 - ((1 : Int32)))) + x5) 4000 then (lt (stB σ 43 ((((8 : Int32)) * (x2 - ((1 : Int32)))) + x5) (x6_13 + x8_15)) (fun σ_33 => (lt (x5 + 1) (fun x5_34 => (fX11_works_L74 k190 n x1 x2 x3 x4 x5_34 σ_33))))) else none) else (if x4 = ((6 : Int32)) then (if ix ((((8 : Int32)) * (x2 - ((1 : Int32)))) + x5) 4000 then (lt (stB σ 43 ((((8 : Int32)) * (x2 - ((1 : Int32)))) + x5) (x6_13 - x8_15)) (fun σ_30 => (lt (x5 + 1) (fun x5_31 => (fX11_works_L74 k190 n x1 x2 x3 x4 x5_31 σ_30))))) else none) else (if x4 = ((7 : Int32)) then (if ix ((((8 : Int32)) * (x2 - ((1 : Int32)))) + x5) 4000 then (lt (stB σ 43 ((((8 : Int32)) * (x2 - ((1 : Int32)))) + x5) (x6_13 * x8_15)) (fun σ_27 => (lt (x5 + 1) (fun x5_28 => (fX11_works_L74 k190 n x1 x2 x3 x4 x5_28 σ_27))))) else none) else (if (lg_cmp x6_13 x8_15) ≤ 0 then (if ix ((((8 : Int32)) * (x2 - ((1 : Int32)))) + x5) 4000 then (lt (stB σ 43 ((((8 : Int32)) * (x2 - ((1 : Int32)))) + x5) x8_15) (fun σ_21 => (lt (x5 + 1) (fun x5_22 => (fX11_works_L74 k190 n x1 x2 x3 x4 x5_22 σ_21))))) else none) else (if ix ((((8 : Int32)) * (x2 - ((1 : Int32)))) + x5) 4000 then (lt (stB σ 43 ((((8 : Int32)) * (x2 - ((1 : Int32)))) + x5) x6_13) (fun σ_24 => (lt (x5 + 1) (fun x5_25 => (fX11_works_L74 k190 n x1 x2 x3 x4 x5_25 σ_24))))) else none))))))) else none))) else none))
def fX11_works_L17 (k196 : Int32 → ST → Option (ST)) : Nat → Int32 → Int32 → Int32 → ST → Option (ST)
  | 0, _, _, _, _ => none
  | n + 1, x1, x2, x3, σ => (if ix ((((7 : Int32)) * (gI σ 11)) + x1) 14 then (if (ldA σ 15 ((((7 : Int32)) * (gI σ 11)) + x1)) ≤ x3 then (k196 x1 σ) else (if ix x3 1000 then (lt (ldA σ 19 x3) (fun x4_7 => (if ((5 : Int32)) ≤ x4_7 then (lt (x2 + (-1)) (fun x2_9 => (lt ((0 : Int32)) (fun x5_10 => (fX11_works_L74 (fun (x1_35 : Int32) (x2_36 : Int32) (x3_37 : Int32) (σ_38 : ST) => (lt (x3_37 + 1) (fun x3_39 => (fX11_works_L17 k196 n x1_35 x2_36 x3_39 σ_38)))) n x1 x2_9 x3 x4_7 x5_10 σ))))) else (if ix x3 1000 then (Option.bind (fX11_put_ n x2 x4_7 (ldA σ 20 x3) σ) (fun q_41 => (lt (x2 + 1) (fun x2_42 => (lt (x3 + 1) (fun x3_43 => (fX11_works_L17 k196 n x1 x2_42 x3_43 q_41))))))) else none)))) else none)) else none)
def fX11_works_L198  : Nat → Int32 → Int32 → ST → Option (ST)
  | 0, _, _, _ => none
  | n + 1, x1, x3, σ => (if ((8 : Int32)) ≤ x3 then (some σ) else (if ix x3 4000 then (if ix ((((8 : Int32)) * x1) + x3) 56 then (lt (stB σ 38 ((((8 : Int32)) * x1) + x3) (ldB σ 43 x3)) (fun σ_50 => (lt (x3 + 1) (fun x3_51 => (fX11_works_L198 n x1 x3_51 σ_50))))) else none) else none))
def fX11_works (n : Nat) (x1 : Int32) (σ : ST) : Option (ST) :=
  (lt ((0 : Int32)) (fun x2_1 => (if ix ((((7 : Int32)) * (gI σ 11)) + x1) 14 then (lt (ldA σ 14 ((((7 : Int32)) * (gI σ 11)) + x1)) (fun x3_3 => (fX11_works_L17 (fun (x1_44 : Int32) (σ_45 : ST) => (lt ((0 : Int32)) (fun x3_46 => (fX11_works_L198 n x1_44 x3_46 σ_45)))) n x1 x2_1 x3_3 σ))) else none)))
section WK
variable {p : Program} {l : Launch} {e : Env} {R : Room} {s : State} {m : MethodId} {args : Array Value} {below : List Frame} {meth : Method} {c : Code} {Q : State → Prop}
variable {D : va_G} {ad : Nat → Nat} {cI cJ cB cZ : ClassId} {A : Nat → Prop} {cc : ByteArray} {nL lev : Nat}
variable {σ : ST} {pc : Nat} {lv : List (Nat × Value)} {st : List Value}
set_option maxHeartbeats 4000000 in
set_option maxRecDepth 100000 in
theorem kX11_works_L74 (C : Ctx p l e (rmL 2) s m args below meth c D (tyz cI cJ cB cZ) (wM ad cI cJ cB cZ) A cX11_works 10 2 RX11) (hr : meth.sig.returnType = none) {res : ST} {k190 : Int32 → Int32 → Int32 → ST → Option (ST)} (hk190 : ∀ (x1 : Int32) (x2 : Int32) (x3 : Int32) (σ : ST), k190 x1 x2 x3 σ = some res → G p l e (rmL 2) s m args below meth c (MQ below (Qv D (tyz cI cJ cB cZ) (wM ad cI cJ cB cZ) A res) args s 0 0 A) D (wM ad cI cJ cB cZ) A 10 σ 190 [(0, .ref (ad 0)), (1, .int x1), (2, .int x2), (3, .int x3)] []) : ∀ (n : Nat) (x1 : Int32) (x2 : Int32) (x3 : Int32) (x4 : Int32) (x5 : Int32) (σ : ST), fX11_works_L74 k190 n x1 x2 x3 x4 x5 σ = some res → G p l e (rmL 2) s m args below meth c (MQ below (Qv D (tyz cI cJ cB cZ) (wM ad cI cJ cB cZ) A res) args s 0 0 A) D (wM ad cI cJ cB cZ) A 10 σ 74 [(0, .ref (ad 0)), (1, .int x1), (2, .int x2), (3, .int x3), (4, .int x4), (5, .int x5)] [] := by
  intro n
  induction n with
  | zero => intro x1 x2 x3 x4 x5 σ h; have h : none = some res := h; cases h
  | succ n ih =>
    intro x1 x2 x3 x4 x5 σ h
    rw [fX11_works_L74] at h
    refine g_iload C dX11_works_74 5 rfl 76 rfl ?_
    refine g_bipush C (v := 8) dX11_works_76 (by decide) 78 rfl ?_
    refine g_icmp_ge C 190 dX11_works_78 (by decide) 81 rfl (fun c_11 => ?_) (fun c_11 => ?_)
    · have h := o_pos h c_11
      exact g_sub C [0, 1, 2, 3] rfl (hk190 x1 x2 x3 σ h)
    · have h := o_neg h c_11
      refine g_aload_n C dX11_works_81 rfl 0 rfl 82 rfl ?_
      refine wgX11_146_0 C dX11_works_82 85 rfl ?_
      refine g_bipush C (v := 8) dX11_works_85 (by decide) 87 rfl ?_
      refine g_iload_n C dX11_works_87 rfl 2 rfl 88 rfl ?_
      refine g_iconst C (v := 1) dX11_works_88 (by decide) 89 rfl ?_
      refine g_isub C dX11_works_89 90 rfl ?_
      refine g_imul C dX11_works_90 91 rfl ?_
      refine g_iload C dX11_works_91 5 rfl 93 rfl ?_
      refine g_iadd C dX11_works_93 94 rfl ?_
      obtain ⟨c_12, h⟩ := o_chk h
      refine wlM_43 C c_12 dX11_works_94 95 rfl ?_
      obtain ⟨x6_13, ex6_13, h⟩ := o_lt h
      refine g_lstore C (lv' := [(6, .long x6_13), (0, .ref (ad 0)), (1, .int x1), (2, .int x2), (3, .int x3), (4, .int x4), (5, .int x5)]) ex6_13 dX11_works_95 (by decide) rfl 97 rfl ?_
      refine g_aload_n C dX11_works_97 rfl 1 rfl 98 rfl ?_
      refine wgX11_146_0 C dX11_works_98 101 rfl ?_
      refine g_bipush C (v := 8) dX11_works_101 (by decide) 103 rfl ?_
      refine g_iload_n C dX11_works_103 rfl 3 rfl 104 rfl ?_
      refine g_imul C dX11_works_104 105 rfl ?_
      refine g_iload C dX11_works_105 6 rfl 107 rfl ?_
      refine g_iadd C dX11_works_107 108 rfl ?_
      obtain ⟨c_14, h⟩ := o_chk h
      refine wlM_43 C c_14 dX11_works_108 109 rfl ?_
      obtain ⟨x8_15, ex8_15, h⟩ := o_lt h
      refine g_lstore C (lv' := [(8, .long x8_15), (6, .long x6_13), (0, .ref (ad 0)), (1, .int x1), (2, .int x2), (3, .int x3), (4, .int x4), (5, .int x5)]) ex8_15 dX11_works_109 (by decide) rfl 111 rfl ?_
      refine g_aload_n C dX11_works_111 rfl 2 rfl 112 rfl ?_
      refine wgX11_146_0 C dX11_works_112 115 rfl ?_
      refine g_bipush C (v := 8) dX11_works_115 (by decide) 117 rfl ?_
      refine g_iload_n C dX11_works_117 rfl 4 rfl 118 rfl ?_
      refine g_iconst C (v := 1) dX11_works_118 (by decide) 119 rfl ?_
      refine g_isub C dX11_works_119 120 rfl ?_
      refine g_imul C dX11_works_120 121 rfl ?_
      refine g_iload C dX11_works_121 7 rfl 123 rfl ?_
      refine g_iadd C dX11_works_123 124 rfl ?_
      refine g_iload C dX11_works_124 6 rfl 126 rfl ?_
      refine g_iconst C (v := 5) dX11_works_126 (by decide) 127 rfl ?_
      refine g_icmp_ne C 138 dX11_works_127 (by decide) 130 rfl (fun c_16 => ?_) (fun c_16 => ?_)
      · have h := o_neg h c_16
        refine g_iload C dX11_works_138 6 rfl 140 rfl ?_
        refine g_bipush C (v := 6) dX11_works_140 (by decide) 142 rfl ?_
        refine g_icmp_ne C 153 dX11_works_142 (by decide) 145 rfl (fun c_17 => ?_) (fun c_17 => ?_)
        · have h := o_neg h c_17
          refine g_iload C dX11_works_153 6 rfl 155 rfl ?_
          refine g_bipush C (v := 7) dX11_works_155 (by decide) 157 rfl ?_
          refine g_icmp_ne C 168 dX11_works_157 (by decide) 160 rfl (fun c_18 => ?_) (fun c_18 => ?_)
          · have h := o_neg h c_18
            refine g_lload C dX11_works_168 1 rfl 170 rfl ?_
            refine g_lload C dX11_works_170 0 rfl 172 rfl ?_
            refine g_lcmp C dX11_works_172 173 rfl ?_
            refine g_if_le C 181 dX11_works_173 (by decide) 176 rfl (fun c_19 => ?_) (fun c_19 => ?_)
            · have h := o_pos h c_19
              refine g_lload C dX11_works_181 0 rfl 183 rfl ?_
              obtain ⟨c_20, h⟩ := o_chk h
              obtain ⟨σ_21, eσ_21, h⟩ := o_lt h
              refine wtM_43 C eσ_21 c_20 dX11_works_183 184 rfl ?_
              obtain ⟨x5_22, ex5_22, h⟩ := o_lt h
              refine g_iinc C (lv' := [(5, .int x5_22), (8, .long x8_15), (6, .long x6_13), (0, .ref (ad 0)), (1, .int x1), (2, .int x2), (3, .int x3), (4, .int x4)]) ex5_22 dX11_works_184 7 rfl (by decide) (by decide) rfl 187 rfl ?_
              refine g_goto C 74 dX11_works_187 (by decide) ?_
              exact g_sub C [3, 4, 5, 6, 7, 0] rfl (ih x1 x2 x3 x4 x5_22 σ_21 h)
            · have h := o_neg h c_19
              refine g_lload C dX11_works_176 1 rfl 178 rfl ?_
              refine g_goto C 183 dX11_works_178 (by decide) ?_
              obtain ⟨c_23, h⟩ := o_chk h
              obtain ⟨σ_24, eσ_24, h⟩ := o_lt h
              refine wtM_43 C eσ_24 c_23 dX11_works_183 184 rfl ?_
              obtain ⟨x5_25, ex5_25, h⟩ := o_lt h
              refine g_iinc C (lv' := [(5, .int x5_25), (8, .long x8_15), (6, .long x6_13), (0, .ref (ad 0)), (1, .int x1), (2, .int x2), (3, .int x3), (4, .int x4)]) ex5_25 dX11_works_184 7 rfl (by decide) (by decide) rfl 187 rfl ?_
              refine g_goto C 74 dX11_works_187 (by decide) ?_
              exact g_sub C [3, 4, 5, 6, 7, 0] rfl (ih x1 x2 x3 x4 x5_25 σ_24 h)
          · have h := o_pos h c_18
            refine g_lload C dX11_works_160 1 rfl 162 rfl ?_
            refine g_lload C dX11_works_162 0 rfl 164 rfl ?_
            refine g_lmul C dX11_works_164 165 rfl ?_
            refine g_goto C 183 dX11_works_165 (by decide) ?_
            obtain ⟨c_26, h⟩ := o_chk h
            obtain ⟨σ_27, eσ_27, h⟩ := o_lt h
            refine wtM_43 C eσ_27 c_26 dX11_works_183 184 rfl ?_
            obtain ⟨x5_28, ex5_28, h⟩ := o_lt h
            refine g_iinc C (lv' := [(5, .int x5_28), (8, .long x8_15), (6, .long x6_13), (0, .ref (ad 0)), (1, .int x1), (2, .int x2), (3, .int x3), (4, .int x4)]) ex5_28 dX11_works_184 7 rfl (by decide) (by decide) rfl 187 rfl ?_
            refine g_goto C 74 dX11_works_187 (by decide) ?_
            exact g_sub C [3, 4, 5, 6, 7, 0] rfl (ih x1 x2 x3 x4 x5_28 σ_27 h)
        · have h := o_pos h c_17
          refine g_lload C dX11_works_145 1 rfl 147 rfl ?_
          refine g_lload C dX11_works_147 0 rfl 149 rfl ?_
          refine g_lsub C dX11_works_149 150 rfl ?_
          refine g_goto C 183 dX11_works_150 (by decide) ?_
          obtain ⟨c_29, h⟩ := o_chk h
          obtain ⟨σ_30, eσ_30, h⟩ := o_lt h
          refine wtM_43 C eσ_30 c_29 dX11_works_183 184 rfl ?_
          obtain ⟨x5_31, ex5_31, h⟩ := o_lt h
          refine g_iinc C (lv' := [(5, .int x5_31), (8, .long x8_15), (6, .long x6_13), (0, .ref (ad 0)), (1, .int x1), (2, .int x2), (3, .int x3), (4, .int x4)]) ex5_31 dX11_works_184 7 rfl (by decide) (by decide) rfl 187 rfl ?_
          refine g_goto C 74 dX11_works_187 (by decide) ?_
          exact g_sub C [3, 4, 5, 6, 7, 0] rfl (ih x1 x2 x3 x4 x5_31 σ_30 h)
      · have h := o_pos h c_16
        refine g_lload C dX11_works_130 1 rfl 132 rfl ?_
        refine g_lload C dX11_works_132 0 rfl 134 rfl ?_
        refine g_ladd C dX11_works_134 135 rfl ?_
        refine g_goto C 183 dX11_works_135 (by decide) ?_
        obtain ⟨c_32, h⟩ := o_chk h
        obtain ⟨σ_33, eσ_33, h⟩ := o_lt h
        refine wtM_43 C eσ_33 c_32 dX11_works_183 184 rfl ?_
        obtain ⟨x5_34, ex5_34, h⟩ := o_lt h
        refine g_iinc C (lv' := [(5, .int x5_34), (8, .long x8_15), (6, .long x6_13), (0, .ref (ad 0)), (1, .int x1), (2, .int x2), (3, .int x3), (4, .int x4)]) ex5_34 dX11_works_184 7 rfl (by decide) (by decide) rfl 187 rfl ?_
        refine g_goto C 74 dX11_works_187 (by decide) ?_
        exact g_sub C [3, 4, 5, 6, 7, 0] rfl (ih x1 x2 x3 x4 x5_34 σ_33 h)
set_option maxHeartbeats 4000000 in
set_option maxRecDepth 100000 in
theorem kX11_works_L17 (C : Ctx p l e (rmL 2) s m args below meth c D (tyz cI cJ cB cZ) (wM ad cI cJ cB cZ) A cX11_works 10 2 RX11) (hr : meth.sig.returnType = none) {res : ST} {k196 : Int32 → ST → Option (ST)} (hk196 : ∀ (x1 : Int32) (σ : ST), k196 x1 σ = some res → G p l e (rmL 2) s m args below meth c (MQ below (Qv D (tyz cI cJ cB cZ) (wM ad cI cJ cB cZ) A res) args s 0 0 A) D (wM ad cI cJ cB cZ) A 10 σ 196 [(0, .ref (ad 0)), (1, .int x1)] []) : ∀ (n : Nat) (x1 : Int32) (x2 : Int32) (x3 : Int32) (σ : ST), fX11_works_L17 k196 n x1 x2 x3 σ = some res → G p l e (rmL 2) s m args below meth c (MQ below (Qv D (tyz cI cJ cB cZ) (wM ad cI cJ cB cZ) A res) args s 0 0 A) D (wM ad cI cJ cB cZ) A 10 σ 17 [(0, .ref (ad 0)), (1, .int x1), (2, .int x2), (3, .int x3)] [] := by
  intro n
  induction n with
  | zero => intro x1 x2 x3 σ h; have h : none = some res := h; cases h
  | succ n ih =>
    intro x1 x2 x3 σ h
    rw [fX11_works_L17] at h
    refine g_iload_n C dX11_works_17 rfl 3 rfl 18 rfl ?_
    refine g_aload_n C dX11_works_18 rfl 0 rfl 19 rfl ?_
    refine wgX11_62_0 C dX11_works_19 22 rfl ?_
    refine g_bipush C (v := 7) dX11_works_22 (by decide) 24 rfl ?_
    refine g_aload_n C dX11_works_24 rfl 0 rfl 25 rfl ?_
    refine wgX11_234_0 C dX11_works_25 28 rfl ?_
    refine g_imul C dX11_works_28 29 rfl ?_
    refine g_iload_n C dX11_works_29 rfl 1 rfl 30 rfl ?_
    refine g_iadd C dX11_works_30 31 rfl ?_
    obtain ⟨c_4, h⟩ := o_chk h
    refine wlM_15 C c_4 dX11_works_31 32 rfl ?_
    refine g_icmp_ge C 196 dX11_works_32 (by decide) 35 rfl (fun c_5 => ?_) (fun c_5 => ?_)
    · have h := o_pos h c_5
      exact g_sub C [0, 1] rfl (hk196 x1 σ h)
    · have h := o_neg h c_5
      refine g_aload_n C dX11_works_35 rfl 0 rfl 36 rfl ?_
      refine wgX11_74_0 C dX11_works_36 39 rfl ?_
      refine g_iload_n C dX11_works_39 rfl 3 rfl 40 rfl ?_
      obtain ⟨c_6, h⟩ := o_chk h
      refine wlM_19 C c_6 dX11_works_40 41 rfl ?_
      obtain ⟨x4_7, ex4_7, h⟩ := o_lt h
      refine g_istore C (lv' := [(4, .int x4_7), (0, .ref (ad 0)), (1, .int x1), (2, .int x2), (3, .int x3)]) ex4_7 dX11_works_41 (by decide) rfl 43 rfl ?_
      refine g_iload C dX11_works_43 0 rfl 45 rfl ?_
      refine g_iconst C (v := 5) dX11_works_45 (by decide) 46 rfl ?_
      refine g_icmp_ge C 68 dX11_works_46 (by decide) 49 rfl (fun c_8 => ?_) (fun c_8 => ?_)
      · have h := o_pos h c_8
        obtain ⟨x2_9, ex2_9, h⟩ := o_lt h
        refine g_iinc C (lv' := [(2, .int x2_9), (4, .int x4_7), (0, .ref (ad 0)), (1, .int x1), (3, .int x3)]) ex2_9 dX11_works_68 3 rfl (by decide) (by decide) rfl 71 rfl ?_
        refine g_iconst C (v := 0) dX11_works_71 (by decide) 72 rfl ?_
        obtain ⟨x5_10, ex5_10, h⟩ := o_lt h
        refine g_istore C (lv' := [(5, .int x5_10), (2, .int x2_9), (4, .int x4_7), (0, .ref (ad 0)), (1, .int x1), (3, .int x3)]) ex5_10 dX11_works_72 (by decide) rfl 74 rfl ?_
        exact g_sub C [3, 4, 1, 5, 2, 0] rfl (kX11_works_L74 C hr (fun x1_35 x2_36 x3_37 σ_38 h => by
            obtain ⟨x3_39, ex3_39, h⟩ := o_lt h
            refine g_iinc C (lv' := [(3, .int x3_39), (0, .ref (ad 0)), (1, .int x1_35), (2, .int x2_36)]) ex3_39 dX11_works_190 3 rfl (by decide) (by decide) rfl 193 rfl ?_
            refine g_goto C 17 dX11_works_193 (by decide) ?_
            exact g_sub C [1, 2, 3, 0] rfl (ih x1_35 x2_36 x3_39 σ_38 h)) n x1 x2_9 x3 x4_7 x5_10 σ h)
      · have h := o_neg h c_8
        refine g_aload_n C dX11_works_49 rfl 1 rfl 50 rfl ?_
        refine g_iload_n C dX11_works_50 rfl 3 rfl 51 rfl ?_
        refine g_iload C dX11_works_51 0 rfl 53 rfl ?_
        refine g_aload_n C dX11_works_53 rfl 1 rfl 54 rfl ?_
        refine wgX11_77_0 C dX11_works_54 57 rfl ?_
        refine g_iload_n C dX11_works_57 rfl 4 rfl 58 rfl ?_
        obtain ⟨c_40, h⟩ := o_chk h
        refine wlM_20 C c_40 dX11_works_58 59 rfl ?_
        obtain ⟨q_41, hq_41, h⟩ := o_bind h
        refine wcX11_308_M_0 C (kX11_put_ hq_41) (by decide) (Nat.le_of_ble_eq_true rfl) dX11_works_59 62 rfl ?_
        obtain ⟨x2_42, ex2_42, h⟩ := o_lt h
        refine g_iinc C (lv' := [(2, .int x2_42), (4, .int x4_7), (0, .ref (ad 0)), (1, .int x1), (3, .int x3)]) ex2_42 dX11_works_62 3 rfl (by decide) (by decide) rfl 65 rfl ?_
        refine g_goto C 190 dX11_works_65 (by decide) ?_
        obtain ⟨x3_43, ex3_43, h⟩ := o_lt h
        refine g_iinc C (lv' := [(3, .int x3_43), (2, .int x2_42), (4, .int x4_7), (0, .ref (ad 0)), (1, .int x1)]) ex3_43 dX11_works_190 4 rfl (by decide) (by decide) rfl 193 rfl ?_
        refine g_goto C 17 dX11_works_193 (by decide) ?_
        exact g_sub C [3, 4, 1, 0] rfl (ih x1 x2_42 x3_43 q_41 h)
set_option maxHeartbeats 4000000 in
set_option maxRecDepth 100000 in
theorem kX11_works_L198 (C : Ctx p l e (rmL 2) s m args below meth c D (tyz cI cJ cB cZ) (wM ad cI cJ cB cZ) A cX11_works 10 2 RX11) (hr : meth.sig.returnType = none) {res : ST}   : ∀ (n : Nat) (x1 : Int32) (x3 : Int32) (σ : ST), fX11_works_L198 n x1 x3 σ = some res → G p l e (rmL 2) s m args below meth c (MQ below (Qv D (tyz cI cJ cB cZ) (wM ad cI cJ cB cZ) A res) args s 0 0 A) D (wM ad cI cJ cB cZ) A 10 σ 198 [(0, .ref (ad 0)), (1, .int x1), (3, .int x3)] [] := by
  intro n
  induction n with
  | zero => intro x1 x3 σ h; have h : none = some res := h; cases h
  | succ n ih =>
    intro x1 x3 σ h
    rw [fX11_works_L198] at h
    refine g_iload_n C dX11_works_198 rfl 2 rfl 199 rfl ?_
    refine g_bipush C (v := 8) dX11_works_199 (by decide) 201 rfl ?_
    refine g_icmp_ge C 227 dX11_works_201 (by decide) 204 rfl (fun c_47 => ?_) (fun c_47 => ?_)
    · have h := o_pos h c_47
      exact g_vret C hr dX11_works_227 h
    · have h := o_neg h c_47
      refine g_aload_n C dX11_works_204 rfl 0 rfl 205 rfl ?_
      refine wgX11_131_0 C dX11_works_205 208 rfl ?_
      refine g_bipush C (v := 8) dX11_works_208 (by decide) 210 rfl ?_
      refine g_iload_n C dX11_works_210 rfl 1 rfl 211 rfl ?_
      refine g_imul C dX11_works_211 212 rfl ?_
      refine g_iload_n C dX11_works_212 rfl 2 rfl 213 rfl ?_
      refine g_iadd C dX11_works_213 214 rfl ?_
      refine g_aload_n C dX11_works_214 rfl 0 rfl 215 rfl ?_
      refine wgX11_146_0 C dX11_works_215 218 rfl ?_
      refine g_iload_n C dX11_works_218 rfl 2 rfl 219 rfl ?_
      obtain ⟨c_48, h⟩ := o_chk h
      refine wlM_43 C c_48 dX11_works_219 220 rfl ?_
      obtain ⟨c_49, h⟩ := o_chk h
      obtain ⟨σ_50, eσ_50, h⟩ := o_lt h
      refine wtM_38 C eσ_50 c_49 dX11_works_220 221 rfl ?_
      obtain ⟨x3_51, ex3_51, h⟩ := o_lt h
      refine g_iinc C (lv' := [(3, .int x3_51), (0, .ref (ad 0)), (1, .int x1)]) ex3_51 dX11_works_221 2 rfl (by decide) (by decide) rfl 224 rfl ?_
      refine g_goto C 198 dX11_works_224 (by decide) ?_
      exact g_sub C [1, 2, 0] rfl (ih x1 x3_51 σ_50 h)
set_option maxHeartbeats 4000000 in
set_option maxRecDepth 100000 in
theorem kX11_works {l : Launch} {D : va_G} {ad : Nat → Nat} {cI cJ cB cZ : ClassId}  {n : Nat} {x1 : Int32} {σ : ST} {res : ST} (h : fX11_works n x1 σ = some res) : CMv l D (tyz cI cJ cB cZ) (wM ad cI cJ cB cZ) 2 yX11_works cX11_works 10 none [.ref (ad 0), .int x1] σ res := by
  refine cmv_body (own := RX11) (lv := [(0, .ref (ad 0)), (1, .int x1)]) (by decide) rfl (wM_addr _ _ _ _ _) (Nat.le_of_ble_eq_true rfl) rfl (fun p e s m args below meth c A C hr => ?_)
  unfold fX11_works at h
  refine g_iconst C (v := 0) dX11_works_0 (by decide) 1 rfl ?_
  obtain ⟨x2_1, ex2_1, h⟩ := o_lt h
  refine g_istore_n C (lv' := [(2, .int x2_1), (0, .ref (ad 0)), (1, .int x1)]) ex2_1 dX11_works_1 rfl (by decide) rfl 2 rfl ?_
  refine g_aload_n C dX11_works_2 rfl 1 rfl 3 rfl ?_
  refine wgX11_59_0 C dX11_works_3 6 rfl ?_
  refine g_bipush C (v := 7) dX11_works_6 (by decide) 8 rfl ?_
  refine g_aload_n C dX11_works_8 rfl 1 rfl 9 rfl ?_
  refine wgX11_234_0 C dX11_works_9 12 rfl ?_
  refine g_imul C dX11_works_12 13 rfl ?_
  refine g_iload_n C dX11_works_13 rfl 2 rfl 14 rfl ?_
  refine g_iadd C dX11_works_14 15 rfl ?_
  obtain ⟨c_2, h⟩ := o_chk h
  refine wlM_14 C c_2 dX11_works_15 16 rfl ?_
  obtain ⟨x3_3, ex3_3, h⟩ := o_lt h
  refine g_istore_n C (lv' := [(3, .int x3_3), (2, .int x2_1), (0, .ref (ad 0)), (1, .int x1)]) ex3_3 dX11_works_16 rfl (by decide) rfl 17 rfl ?_
  exact g_sub C [2, 3, 1, 0] rfl (kX11_works_L17 C hr (fun x1_44 σ_45 h => by
      refine g_iconst C (v := 0) dX11_works_196 (by decide) 197 rfl ?_
      obtain ⟨x3_46, ex3_46, h⟩ := o_lt h
      refine g_istore_n C (lv' := [(3, .int x3_46), (0, .ref (ad 0)), (1, .int x1_44)]) ex3_46 dX11_works_197 rfl (by decide) rfl 198 rfl ?_
      exact g_sub C [1, 2, 0] rfl (kX11_works_L198 C hr  n x1_44 x3_46 σ_45 h)) n x1 x2_1 x3_3 σ h)
end WK
/-! X11_tick public int tick(); -/
def fX11_tick_L34 (k103 : Int32 → ST → Option (Int32 × ST)) : Nat → Int32 → Int32 → ST → Option (Int32 × ST)
  | 0, _, _, _ => none
  | n + 1, x1, x2, σ => (if ix (gI σ 11) 2 then (if (ldA σ 8 (gI σ 11)) ≤ x2 then (k103 x1 σ) else (if ix x1 3 then (if (ldA σ 33 x1) = ((-1 : Int32)) then (if ix x2 7 then (Option.bind (fX11_isReady n (ldA σ 34 x2) σ) (fun q_11 => (if q_11.1 = 0 then (lt (x2 + 1) (fun x2_20 => (fX11_tick_L34 k103 n x1 x2_20 q_11.2))) else (if ix x2 7 then (if ix x1 3 then (lt (stA q_11.2 33 x1 (ldA q_11.2 34 x2)) (fun σ_15 => (if ix x2 7 then (if ix (ldA σ_15 34 x2) 7 then (lt (stA σ_15 37 (ldA σ_15 34 x2) ((0 : Int32))) (fun σ_18 => (lt (x2 + 1) (fun x2_19 => (fX11_tick_L34 k103 n x1 x2_19 σ_18))))) else none) else none))) else none) else none)))) else none) else (k103 x1 σ)) else none)) else none)
def fX11_tick_L24 (k109 : ST → Option (Int32 × ST)) : Nat → Int32 → ST → Option (Int32 × ST)
  | 0, _, _ => none
  | n + 1, x1, σ => (if (gI σ 19) ≤ x1 then (k109 σ) else (lt ((0 : Int32)) (fun x2_5 => (fX11_tick_L34 (fun (x1_21 : Int32) (σ_22 : ST) => (lt (x1_21 + 1) (fun x1_23 => (fX11_tick_L24 k109 n x1_23 σ_22)))) n x1 x2_5 σ))))
def fX11_tick_L228 (k257 : Int32 → ST → Option (Int32 × ST)) : Nat → Int32 → Int32 → Int32 → ST → Option (Int32 × ST)
  | 0, _, _, _, _ => none
  | n + 1, x1, x2, x3, σ => (if (gI σ 17) ≤ x3 then (k257 x1 σ) else (if ix x3 6 then (if (ldA σ 32 x3) = 0 then (Option.bind (fX11_sends n x2 x3 σ) (fun q_54 => (lt (x3 + 1) (fun x3_55 => (fX11_tick_L228 k257 n x1 x2 x3_55 q_54))))) else (lt (x3 + 1) (fun x3_53 => (fX11_tick_L228 k257 n x1 x2 x3_53 σ)))) else none))
def fX11_tick_L111  : Nat → Int32 → ST → Option (Int32 × ST)
  | 0, _, _ => none
  | n + 1, x1, σ => (if (gI σ 19) ≤ x1 then (some (gI σ 18, σ)) else (if ix x1 3 then (lt (ldA σ 33 x1) (fun x2_28 => (if x2_28 = ((-1 : Int32)) then (lt (x1 + 1) (fun x1_60 => (fX11_tick_L111 n x1_60 σ))) else (if ix x2_28 7 then (if ix x2_28 7 then (lt (stA σ 37 x2_28 ((ldA σ 37 x2_28) + ((1 : Int32)))) (fun σ_32 => (if ix x2_28 7 then (if ix ((((7 : Int32)) * (gI σ_32 11)) + x2_28) 14 then (if (ldA σ_32 11 ((((7 : Int32)) * (gI σ_32 11)) + x2_28)) ≤ (ldA σ_32 37 x2_28) then (if ix x1 3 then (lt (stA σ_32 33 x1 ((-1 : Int32))) (fun σ_37 => (if ix x2_28 7 then (lt (stA σ_37 37 x2_28 ((0 : Int32))) (fun σ_39 => (Option.bind (fX11_works n x2_28 σ_39) (fun q_40 => (if ix x2_28 7 then (lt (stA q_40 35 x2_28 (gI q_40 18)) (fun σ_42 => (if ix x2_28 7 then (if ix x2_28 7 then (lt (stA σ_42 36 x2_28 ((ldA σ_42 36 x2_28) + ((1 : Int32)))) (fun σ_45 => (if ix ((((7 : Int32)) * (gI σ_45 11)) + x2_28) 14 then (if (ldA σ_45 10 ((((7 : Int32)) * (gI σ_45 11)) + x2_28)) = 0 then (lt (x1 + 1) (fun x1_48 => (fX11_tick_L111 n x1_48 σ_45))) else (lt ((0 : Int32)) (fun x3_49 => (fX11_tick_L228 (fun (x1_56 : Int32) (σ_57 : ST) => (lt (x1_56 + 1) (fun x1_58 => (fX11_tick_L111 n x1_58 σ_57)))) n x1 x2_28 x3_49 σ_45)))) else none))) else none) else none))) else none))))) else none))) else none) else (lt (x1 + 1) (fun x1_59 => (fX11_tick_L111 n x1_59 σ_32)))) else none) else none))) else none) else none)))) else none))
def fX11_tick (n : Nat)  (σ : ST) : Option (Int32 × ST) :=
  (if (gI σ 18) = ((399 : Int32)) then (some ((-1 : Int32), σ)) else (lt (sI σ 18 ((gI σ 18) + ((1 : Int32)))) (fun σ_2 => (lt ((0 : Int32)) (fun x1_3 => (fX11_tick_L24 (fun (σ_24 : ST) => (lt ((0 : Int32)) (fun x1_25 => (fX11_tick_L111 n x1_25 σ_24)))) n x1_3 σ_2))))))
section WK
variable {p : Program} {l : Launch} {e : Env} {R : Room} {s : State} {m : MethodId} {args : Array Value} {below : List Frame} {meth : Method} {c : Code} {Q : State → Prop}
variable {D : va_G} {ad : Nat → Nat} {cI cJ cB cZ : ClassId} {A : Nat → Prop} {cc : ByteArray} {nL lev : Nat}
variable {σ : ST} {pc : Nat} {lv : List (Nat × Value)} {st : List Value}
set_option maxHeartbeats 4000000 in
set_option maxRecDepth 100000 in
theorem kX11_tick_L34 (C : Ctx p l e (rmL 3) s m args below meth c D (tyz cI cJ cB cZ) (wM ad cI cJ cB cZ) A cX11_tick 4 3 RX11) (hr : meth.sig.returnType = some .int) {res : Int32 × ST} {k103 : Int32 → ST → Option (Int32 × ST)} (hk103 : ∀ (x1 : Int32) (σ : ST), k103 x1 σ = some res → G p l e (rmL 3) s m args below meth c (MQ below (Qi D (tyz cI cJ cB cZ) (wM ad cI cJ cB cZ) A res) args s 0 0 A) D (wM ad cI cJ cB cZ) A 4 σ 103 [(0, .ref (ad 0)), (1, .int x1)] []) : ∀ (n : Nat) (x1 : Int32) (x2 : Int32) (σ : ST), fX11_tick_L34 k103 n x1 x2 σ = some res → G p l e (rmL 3) s m args below meth c (MQ below (Qi D (tyz cI cJ cB cZ) (wM ad cI cJ cB cZ) A res) args s 0 0 A) D (wM ad cI cJ cB cZ) A 4 σ 34 [(0, .ref (ad 0)), (1, .int x1), (2, .int x2)] [] := by
  intro n
  induction n with
  | zero => intro x1 x2 σ h; have h : none = some res := h; cases h
  | succ n ih =>
    intro x1 x2 σ h
    rw [fX11_tick_L34] at h
    refine g_iload_n C dX11_tick_34 rfl 2 rfl 35 rfl ?_
    refine g_aload_n C dX11_tick_35 rfl 0 rfl 36 rfl ?_
    refine wgX11_40_0 C dX11_tick_36 39 rfl ?_
    refine g_aload_n C dX11_tick_39 rfl 0 rfl 40 rfl ?_
    refine wgX11_234_0 C dX11_tick_40 43 rfl ?_
    obtain ⟨c_6, h⟩ := o_chk h
    refine wlM_8 C c_6 dX11_tick_43 44 rfl ?_
    refine g_icmp_ge C 103 dX11_tick_44 (by decide) 47 rfl (fun c_7 => ?_) (fun c_7 => ?_)
    · have h := o_pos h c_7
      exact g_sub C [0, 1] rfl (hk103 x1 σ h)
    · have h := o_neg h c_7
      refine g_aload_n C dX11_tick_47 rfl 0 rfl 48 rfl ?_
      refine wgX11_116_0 C dX11_tick_48 51 rfl ?_
      refine g_iload_n C dX11_tick_51 rfl 1 rfl 52 rfl ?_
      obtain ⟨c_8, h⟩ := o_chk h
      refine wlM_33 C c_8 dX11_tick_52 53 rfl ?_
      refine g_iconst C (v := -1) dX11_tick_53 (by decide) 54 rfl ?_
      refine g_icmp_ne C 103 dX11_tick_54 (by decide) 57 rfl (fun c_9 => ?_) (fun c_9 => ?_)
      · have h := o_neg h c_9
        exact g_sub C [0, 1] rfl (hk103 x1 σ h)
      · have h := o_pos h c_9
        refine g_aload_n C dX11_tick_57 rfl 0 rfl 58 rfl ?_
        refine g_aload_n C dX11_tick_58 rfl 0 rfl 59 rfl ?_
        refine wgX11_119_0 C dX11_tick_59 62 rfl ?_
        refine g_iload_n C dX11_tick_62 rfl 2 rfl 63 rfl ?_
        obtain ⟨c_10, h⟩ := o_chk h
        refine wlM_34 C c_10 dX11_tick_63 64 rfl ?_
        obtain ⟨q_11, hq_11, h⟩ := o_bind h
        refine wcX11_317_M_0 C (kX11_isReady hq_11) (by decide) (Nat.le_of_ble_eq_true rfl) dX11_tick_64 67 rfl ?_
        refine g_if_ne C 73 dX11_tick_67 (by decide) 70 rfl (fun c_12 => ?_) (fun c_12 => ?_)
        · have h := o_neg h c_12
          refine g_aload_n C dX11_tick_73 rfl 0 rfl 74 rfl ?_
          refine wgX11_116_0 C dX11_tick_74 77 rfl ?_
          refine g_iload_n C dX11_tick_77 rfl 1 rfl 78 rfl ?_
          refine g_aload_n C dX11_tick_78 rfl 0 rfl 79 rfl ?_
          refine wgX11_119_0 C dX11_tick_79 82 rfl ?_
          refine g_iload_n C dX11_tick_82 rfl 2 rfl 83 rfl ?_
          obtain ⟨c_13, h⟩ := o_chk h
          refine wlM_34 C c_13 dX11_tick_83 84 rfl ?_
          obtain ⟨c_14, h⟩ := o_chk h
          obtain ⟨σ_15, eσ_15, h⟩ := o_lt h
          refine wtM_33 C eσ_15 c_14 dX11_tick_84 85 rfl ?_
          refine g_aload_n C dX11_tick_85 rfl 0 rfl 86 rfl ?_
          refine wgX11_128_0 C dX11_tick_86 89 rfl ?_
          refine g_aload_n C dX11_tick_89 rfl 0 rfl 90 rfl ?_
          refine wgX11_119_0 C dX11_tick_90 93 rfl ?_
          refine g_iload_n C dX11_tick_93 rfl 2 rfl 94 rfl ?_
          obtain ⟨c_16, h⟩ := o_chk h
          refine wlM_34 C c_16 dX11_tick_94 95 rfl ?_
          refine g_iconst C (v := 0) dX11_tick_95 (by decide) 96 rfl ?_
          obtain ⟨c_17, h⟩ := o_chk h
          obtain ⟨σ_18, eσ_18, h⟩ := o_lt h
          refine wtM_37 C eσ_18 c_17 dX11_tick_96 97 rfl ?_
          obtain ⟨x2_19, ex2_19, h⟩ := o_lt h
          refine g_iinc C (lv' := [(2, .int x2_19), (0, .ref (ad 0)), (1, .int x1)]) ex2_19 dX11_tick_97 2 rfl (by decide) (by decide) rfl 100 rfl ?_
          refine g_goto C 34 dX11_tick_100 (by decide) ?_
          exact g_sub C [1, 2, 0] rfl (ih x1 x2_19 σ_18 h)
        · have h := o_pos h c_12
          refine g_goto C 97 dX11_tick_70 (by decide) ?_
          obtain ⟨x2_20, ex2_20, h⟩ := o_lt h
          refine g_iinc C (lv' := [(2, .int x2_20), (0, .ref (ad 0)), (1, .int x1)]) ex2_20 dX11_tick_97 2 rfl (by decide) (by decide) rfl 100 rfl ?_
          refine g_goto C 34 dX11_tick_100 (by decide) ?_
          exact g_sub C [1, 2, 0] rfl (ih x1 x2_20 q_11.2 h)
set_option maxHeartbeats 4000000 in
set_option maxRecDepth 100000 in
theorem kX11_tick_L24 (C : Ctx p l e (rmL 3) s m args below meth c D (tyz cI cJ cB cZ) (wM ad cI cJ cB cZ) A cX11_tick 4 3 RX11) (hr : meth.sig.returnType = some .int) {res : Int32 × ST} {k109 : ST → Option (Int32 × ST)} (hk109 : ∀ (σ : ST), k109 σ = some res → G p l e (rmL 3) s m args below meth c (MQ below (Qi D (tyz cI cJ cB cZ) (wM ad cI cJ cB cZ) A res) args s 0 0 A) D (wM ad cI cJ cB cZ) A 4 σ 109 [(0, .ref (ad 0))] []) : ∀ (n : Nat) (x1 : Int32) (σ : ST), fX11_tick_L24 k109 n x1 σ = some res → G p l e (rmL 3) s m args below meth c (MQ below (Qi D (tyz cI cJ cB cZ) (wM ad cI cJ cB cZ) A res) args s 0 0 A) D (wM ad cI cJ cB cZ) A 4 σ 24 [(0, .ref (ad 0)), (1, .int x1)] [] := by
  intro n
  induction n with
  | zero => intro x1 σ h; have h : none = some res := h; cases h
  | succ n ih =>
    intro x1 σ h
    rw [fX11_tick_L24] at h
    refine g_iload_n C dX11_tick_24 rfl 1 rfl 25 rfl ?_
    refine g_aload_n C dX11_tick_25 rfl 0 rfl 26 rfl ?_
    refine wgX11_168_0 C dX11_tick_26 29 rfl ?_
    refine g_icmp_ge C 109 dX11_tick_29 (by decide) 32 rfl (fun c_4 => ?_) (fun c_4 => ?_)
    · have h := o_pos h c_4
      exact g_sub C [0] rfl (hk109 σ h)
    · have h := o_neg h c_4
      refine g_iconst C (v := 0) dX11_tick_32 (by decide) 33 rfl ?_
      obtain ⟨x2_5, ex2_5, h⟩ := o_lt h
      refine g_istore_n C (lv' := [(2, .int x2_5), (0, .ref (ad 0)), (1, .int x1)]) ex2_5 dX11_tick_33 rfl (by decide) rfl 34 rfl ?_
      exact g_sub C [1, 2, 0] rfl (kX11_tick_L34 C hr (fun x1_21 σ_22 h => by
          obtain ⟨x1_23, ex1_23, h⟩ := o_lt h
          refine g_iinc C (lv' := [(1, .int x1_23), (0, .ref (ad 0))]) ex1_23 dX11_tick_103 1 rfl (by decide) (by decide) rfl 106 rfl ?_
          refine g_goto C 24 dX11_tick_106 (by decide) ?_
          exact g_sub C [1, 0] rfl (ih x1_23 σ_22 h)) n x1 x2_5 σ h)
set_option maxHeartbeats 4000000 in
set_option maxRecDepth 100000 in
theorem kX11_tick_L228 (C : Ctx p l e (rmL 3) s m args below meth c D (tyz cI cJ cB cZ) (wM ad cI cJ cB cZ) A cX11_tick 4 3 RX11) (hr : meth.sig.returnType = some .int) {res : Int32 × ST} {k257 : Int32 → ST → Option (Int32 × ST)} (hk257 : ∀ (x1 : Int32) (σ : ST), k257 x1 σ = some res → G p l e (rmL 3) s m args below meth c (MQ below (Qi D (tyz cI cJ cB cZ) (wM ad cI cJ cB cZ) A res) args s 0 0 A) D (wM ad cI cJ cB cZ) A 4 σ 257 [(0, .ref (ad 0)), (1, .int x1)] []) : ∀ (n : Nat) (x1 : Int32) (x2 : Int32) (x3 : Int32) (σ : ST), fX11_tick_L228 k257 n x1 x2 x3 σ = some res → G p l e (rmL 3) s m args below meth c (MQ below (Qi D (tyz cI cJ cB cZ) (wM ad cI cJ cB cZ) A res) args s 0 0 A) D (wM ad cI cJ cB cZ) A 4 σ 228 [(0, .ref (ad 0)), (1, .int x1), (2, .int x2), (3, .int x3)] [] := by
  intro n
  induction n with
  | zero => intro x1 x2 x3 σ h; have h : none = some res := h; cases h
  | succ n ih =>
    intro x1 x2 x3 σ h
    rw [fX11_tick_L228] at h
    refine g_iload_n C dX11_tick_228 rfl 3 rfl 229 rfl ?_
    refine g_aload_n C dX11_tick_229 rfl 0 rfl 230 rfl ?_
    refine wgX11_289_0 C dX11_tick_230 233 rfl ?_
    refine g_icmp_ge C 257 dX11_tick_233 (by decide) 236 rfl (fun c_50 => ?_) (fun c_50 => ?_)
    · have h := o_pos h c_50
      exact g_sub C [0, 1] rfl (hk257 x1 σ h)
    · have h := o_neg h c_50
      refine g_aload_n C dX11_tick_236 rfl 0 rfl 237 rfl ?_
      refine wgX11_113_0 C dX11_tick_237 240 rfl ?_
      refine g_iload_n C dX11_tick_240 rfl 3 rfl 241 rfl ?_
      obtain ⟨c_51, h⟩ := o_chk h
      refine wlM_32 C c_51 dX11_tick_241 242 rfl ?_
      refine g_if_ne C 251 dX11_tick_242 (by decide) 245 rfl (fun c_52 => ?_) (fun c_52 => ?_)
      · have h := o_neg h c_52
        obtain ⟨x3_53, ex3_53, h⟩ := o_lt h
        refine g_iinc C (lv' := [(3, .int x3_53), (0, .ref (ad 0)), (1, .int x1), (2, .int x2)]) ex3_53 dX11_tick_251 3 rfl (by decide) (by decide) rfl 254 rfl ?_
        refine g_goto C 228 dX11_tick_254 (by decide) ?_
        exact g_sub C [1, 2, 3, 0] rfl (ih x1 x2 x3_53 σ h)
      · have h := o_pos h c_52
        refine g_aload_n C dX11_tick_245 rfl 0 rfl 246 rfl ?_
        refine g_iload_n C dX11_tick_246 rfl 2 rfl 247 rfl ?_
        refine g_iload_n C dX11_tick_247 rfl 3 rfl 248 rfl ?_
        obtain ⟨q_54, hq_54, h⟩ := o_bind h
        refine wcX11_298_M_0 C (kX11_sends hq_54) (by decide) (Nat.le_of_ble_eq_true rfl) dX11_tick_248 251 rfl ?_
        obtain ⟨x3_55, ex3_55, h⟩ := o_lt h
        refine g_iinc C (lv' := [(3, .int x3_55), (0, .ref (ad 0)), (1, .int x1), (2, .int x2)]) ex3_55 dX11_tick_251 3 rfl (by decide) (by decide) rfl 254 rfl ?_
        refine g_goto C 228 dX11_tick_254 (by decide) ?_
        exact g_sub C [1, 2, 3, 0] rfl (ih x1 x2 x3_55 q_54 h)
set_option maxHeartbeats 4000000 in
set_option maxRecDepth 100000 in
theorem kX11_tick_L111 (C : Ctx p l e (rmL 3) s m args below meth c D (tyz cI cJ cB cZ) (wM ad cI cJ cB cZ) A cX11_tick 4 3 RX11) (hr : meth.sig.returnType = some .int) {res : Int32 × ST}   : ∀ (n : Nat) (x1 : Int32) (σ : ST), fX11_tick_L111 n x1 σ = some res → G p l e (rmL 3) s m args below meth c (MQ below (Qi D (tyz cI cJ cB cZ) (wM ad cI cJ cB cZ) A res) args s 0 0 A) D (wM ad cI cJ cB cZ) A 4 σ 111 [(0, .ref (ad 0)), (1, .int x1)] [] := by
  intro n
  induction n with
  | zero => intro x1 σ h; have h : none = some res := h; cases h
  | succ n ih =>
    intro x1 σ h
    rw [fX11_tick_L111] at h
    refine g_iload_n C dX11_tick_111 rfl 1 rfl 112 rfl ?_
    refine g_aload_n C dX11_tick_112 rfl 0 rfl 113 rfl ?_
    refine wgX11_168_0 C dX11_tick_113 116 rfl ?_
    refine g_icmp_ge C 263 dX11_tick_116 (by decide) 119 rfl (fun c_26 => ?_) (fun c_26 => ?_)
    · have h := o_pos h c_26
      refine g_aload_n C dX11_tick_263 rfl 0 rfl 264 rfl ?_
      refine wgX11_314_0 C dX11_tick_264 267 rfl ?_
      exact g_iret C hr dX11_tick_267 h
    · have h := o_neg h c_26
      refine g_aload_n C dX11_tick_119 rfl 0 rfl 120 rfl ?_
      refine wgX11_116_0 C dX11_tick_120 123 rfl ?_
      refine g_iload_n C dX11_tick_123 rfl 1 rfl 124 rfl ?_
      obtain ⟨c_27, h⟩ := o_chk h
      refine wlM_33 C c_27 dX11_tick_124 125 rfl ?_
      obtain ⟨x2_28, ex2_28, h⟩ := o_lt h
      refine g_istore_n C (lv' := [(2, .int x2_28), (0, .ref (ad 0)), (1, .int x1)]) ex2_28 dX11_tick_125 rfl (by decide) rfl 126 rfl ?_
      refine g_iload_n C dX11_tick_126 rfl 0 rfl 127 rfl ?_
      refine g_iconst C (v := -1) dX11_tick_127 (by decide) 128 rfl ?_
      refine g_icmp_ne C 134 dX11_tick_128 (by decide) 131 rfl (fun c_29 => ?_) (fun c_29 => ?_)
      · have h := o_neg h c_29
        refine g_aload_n C dX11_tick_134 rfl 1 rfl 135 rfl ?_
        refine wgX11_128_0 C dX11_tick_135 138 rfl ?_
        refine g_iload_n C dX11_tick_138 rfl 0 rfl 139 rfl ?_
        refine g_dup2 C dX11_tick_139 rfl rfl 140 rfl ?_
        obtain ⟨c_30, h⟩ := o_chk h
        refine wlM_37 C c_30 dX11_tick_140 141 rfl ?_
        refine g_iconst C (v := 1) dX11_tick_141 (by decide) 142 rfl ?_
        refine g_iadd C dX11_tick_142 143 rfl ?_
        obtain ⟨c_31, h⟩ := o_chk h
        obtain ⟨σ_32, eσ_32, h⟩ := o_lt h
        refine wtM_37 C eσ_32 c_31 dX11_tick_143 144 rfl ?_
        refine g_aload_n C dX11_tick_144 rfl 1 rfl 145 rfl ?_
        refine wgX11_128_0 C dX11_tick_145 148 rfl ?_
        refine g_iload_n C dX11_tick_148 rfl 0 rfl 149 rfl ?_
        obtain ⟨c_33, h⟩ := o_chk h
        refine wlM_37 C c_33 dX11_tick_149 150 rfl ?_
        refine g_aload_n C dX11_tick_150 rfl 1 rfl 151 rfl ?_
        refine wgX11_50_0 C dX11_tick_151 154 rfl ?_
        refine g_bipush C (v := 7) dX11_tick_154 (by decide) 156 rfl ?_
        refine g_aload_n C dX11_tick_156 rfl 1 rfl 157 rfl ?_
        refine wgX11_234_0 C dX11_tick_157 160 rfl ?_
        refine g_imul C dX11_tick_160 161 rfl ?_
        refine g_iload_n C dX11_tick_161 rfl 0 rfl 162 rfl ?_
        refine g_iadd C dX11_tick_162 163 rfl ?_
        obtain ⟨c_34, h⟩ := o_chk h
        refine wlM_11 C c_34 dX11_tick_163 164 rfl ?_
        refine g_icmp_ge C 170 dX11_tick_164 (by decide) 167 rfl (fun c_35 => ?_) (fun c_35 => ?_)
        · have h := o_pos h c_35
          refine g_aload_n C dX11_tick_170 rfl 1 rfl 171 rfl ?_
          refine wgX11_116_0 C dX11_tick_171 174 rfl ?_
          refine g_iload_n C dX11_tick_174 rfl 2 rfl 175 rfl ?_
          refine g_iconst C (v := -1) dX11_tick_175 (by decide) 176 rfl ?_
          obtain ⟨c_36, h⟩ := o_chk h
          obtain ⟨σ_37, eσ_37, h⟩ := o_lt h
          refine wtM_33 C eσ_37 c_36 dX11_tick_176 177 rfl ?_
          refine g_aload_n C dX11_tick_177 rfl 1 rfl 178 rfl ?_
          refine wgX11_128_0 C dX11_tick_178 181 rfl ?_
          refine g_iload_n C dX11_tick_181 rfl 0 rfl 182 rfl ?_
          refine g_iconst C (v := 0) dX11_tick_182 (by decide) 183 rfl ?_
          obtain ⟨c_38, h⟩ := o_chk h
          obtain ⟨σ_39, eσ_39, h⟩ := o_lt h
          refine wtM_37 C eσ_39 c_38 dX11_tick_183 184 rfl ?_
          refine g_aload_n C dX11_tick_184 rfl 1 rfl 185 rfl ?_
          refine g_iload_n C dX11_tick_185 rfl 0 rfl 186 rfl ?_
          obtain ⟨q_40, hq_40, h⟩ := o_bind h
          refine wcX11_320_M_0 C (kX11_works hq_40) (by decide) (Nat.le_of_ble_eq_true rfl) dX11_tick_186 189 rfl ?_
          refine g_aload_n C dX11_tick_189 rfl 1 rfl 190 rfl ?_
          refine wgX11_122_0 C dX11_tick_190 193 rfl ?_
          refine g_iload_n C dX11_tick_193 rfl 0 rfl 194 rfl ?_
          refine g_aload_n C dX11_tick_194 rfl 1 rfl 195 rfl ?_
          refine wgX11_314_0 C dX11_tick_195 198 rfl ?_
          obtain ⟨c_41, h⟩ := o_chk h
          obtain ⟨σ_42, eσ_42, h⟩ := o_lt h
          refine wtM_35 C eσ_42 c_41 dX11_tick_198 199 rfl ?_
          refine g_aload_n C dX11_tick_199 rfl 1 rfl 200 rfl ?_
          refine wgX11_125_0 C dX11_tick_200 203 rfl ?_
          refine g_iload_n C dX11_tick_203 rfl 0 rfl 204 rfl ?_
          refine g_dup2 C dX11_tick_204 rfl rfl 205 rfl ?_
          obtain ⟨c_43, h⟩ := o_chk h
          refine wlM_36 C c_43 dX11_tick_205 206 rfl ?_
          refine g_iconst C (v := 1) dX11_tick_206 (by decide) 207 rfl ?_
          refine g_iadd C dX11_tick_207 208 rfl ?_
          obtain ⟨c_44, h⟩ := o_chk h
          obtain ⟨σ_45, eσ_45, h⟩ := o_lt h
          refine wtM_36 C eσ_45 c_44 dX11_tick_208 209 rfl ?_
          refine g_aload_n C dX11_tick_209 rfl 1 rfl 210 rfl ?_
          refine wgX11_46_0 C dX11_tick_210 213 rfl ?_
          refine g_bipush C (v := 7) dX11_tick_213 (by decide) 215 rfl ?_
          refine g_aload_n C dX11_tick_215 rfl 1 rfl 216 rfl ?_
          refine wgX11_234_0 C dX11_tick_216 219 rfl ?_
          refine g_imul C dX11_tick_219 220 rfl ?_
          refine g_iload_n C dX11_tick_220 rfl 0 rfl 221 rfl ?_
          refine g_iadd C dX11_tick_221 222 rfl ?_
          obtain ⟨c_46, h⟩ := o_chk h
          refine wlM_10 C c_46 dX11_tick_222 223 rfl ?_
          refine g_if_eq C 257 dX11_tick_223 (by decide) 226 rfl (fun c_47 => ?_) (fun c_47 => ?_)
          · have h := o_pos h c_47
            obtain ⟨x1_48, ex1_48, h⟩ := o_lt h
            refine g_iinc C (lv' := [(1, .int x1_48), (2, .int x2_28), (0, .ref (ad 0))]) ex1_48 dX11_tick_257 2 rfl (by decide) (by decide) rfl 260 rfl ?_
            refine g_goto C 111 dX11_tick_260 (by decide) ?_
            exact g_sub C [2, 0] rfl (ih x1_48 σ_45 h)
          · have h := o_neg h c_47
            refine g_iconst C (v := 0) dX11_tick_226 (by decide) 227 rfl ?_
            obtain ⟨x3_49, ex3_49, h⟩ := o_lt h
            refine g_istore_n C (lv' := [(3, .int x3_49), (2, .int x2_28), (0, .ref (ad 0)), (1, .int x1)]) ex3_49 dX11_tick_227 rfl (by decide) rfl 228 rfl ?_
            exact g_sub C [2, 3, 1, 0] rfl (kX11_tick_L228 C hr (fun x1_56 σ_57 h => by
                obtain ⟨x1_58, ex1_58, h⟩ := o_lt h
                refine g_iinc C (lv' := [(1, .int x1_58), (0, .ref (ad 0))]) ex1_58 dX11_tick_257 1 rfl (by decide) (by decide) rfl 260 rfl ?_
                refine g_goto C 111 dX11_tick_260 (by decide) ?_
                exact g_sub C [1, 0] rfl (ih x1_58 σ_57 h)) n x1 x2_28 x3_49 σ_45 h)
        · have h := o_neg h c_35
          refine g_goto C 257 dX11_tick_167 (by decide) ?_
          obtain ⟨x1_59, ex1_59, h⟩ := o_lt h
          refine g_iinc C (lv' := [(1, .int x1_59), (2, .int x2_28), (0, .ref (ad 0))]) ex1_59 dX11_tick_257 2 rfl (by decide) (by decide) rfl 260 rfl ?_
          refine g_goto C 111 dX11_tick_260 (by decide) ?_
          exact g_sub C [2, 0] rfl (ih x1_59 σ_32 h)
      · have h := o_pos h c_29
        refine g_goto C 257 dX11_tick_131 (by decide) ?_
        obtain ⟨x1_60, ex1_60, h⟩ := o_lt h
        refine g_iinc C (lv' := [(1, .int x1_60), (2, .int x2_28), (0, .ref (ad 0))]) ex1_60 dX11_tick_257 2 rfl (by decide) (by decide) rfl 260 rfl ?_
        refine g_goto C 111 dX11_tick_260 (by decide) ?_
        exact g_sub C [2, 0] rfl (ih x1_60 σ h)
set_option maxHeartbeats 4000000 in
set_option maxRecDepth 100000 in
theorem kX11_tick {l : Launch} {D : va_G} {ad : Nat → Nat} {cI cJ cB cZ : ClassId}  {n : Nat}  {σ : ST} {res : Int32 × ST} (h : fX11_tick n σ = some res) : CMi l D (tyz cI cJ cB cZ) (wM ad cI cJ cB cZ) 3 yX11_tick cX11_tick 4 (some .int) [.ref (ad 0)] σ res := by
  refine cmi_body (own := RX11) (lv := [(0, .ref (ad 0))]) (by decide) rfl (wM_addr _ _ _ _ _) (Nat.le_of_ble_eq_true rfl) rfl (fun p e s m args below meth c A C hr => ?_)
  unfold fX11_tick at h
  refine g_aload_n C dX11_tick_0 rfl 0 rfl 1 rfl ?_
  refine wgX11_314_0 C dX11_tick_1 4 rfl ?_
  refine g_sipush C (v := 399) dX11_tick_4 (by decide) 7 rfl ?_
  refine g_icmp_ne C 12 dX11_tick_7 (by decide) 10 rfl (fun c_1 => ?_) (fun c_1 => ?_)
  · have h := o_neg h c_1
    refine g_aload_n C dX11_tick_12 rfl 0 rfl 13 rfl ?_
    refine g_dup C dX11_tick_13 rfl 14 rfl ?_
    refine wgX11_314_0 C dX11_tick_14 17 rfl ?_
    refine g_iconst C (v := 1) dX11_tick_17 (by decide) 18 rfl ?_
    refine g_iadd C dX11_tick_18 19 rfl ?_
    obtain ⟨σ_2, eσ_2, h⟩ := o_lt h
    refine wpX11_314_0 C eσ_2 dX11_tick_19 22 rfl ?_
    refine g_iconst C (v := 0) dX11_tick_22 (by decide) 23 rfl ?_
    obtain ⟨x1_3, ex1_3, h⟩ := o_lt h
    refine g_istore_n C (lv' := [(1, .int x1_3), (0, .ref (ad 0))]) ex1_3 dX11_tick_23 rfl (by decide) rfl 24 rfl ?_
    exact g_sub C [1, 0] rfl (kX11_tick_L24 C hr (fun σ_24 h => by
        refine g_iconst C (v := 0) dX11_tick_109 (by decide) 110 rfl ?_
        obtain ⟨x1_25, ex1_25, h⟩ := o_lt h
        refine g_istore_n C (lv' := [(1, .int x1_25), (0, .ref (ad 0))]) ex1_25 dX11_tick_110 rfl (by decide) rfl 111 rfl ?_
        exact g_sub C [1, 0] rfl (kX11_tick_L111 C hr  n x1_25 σ_24 h)) n x1_3 σ_2 h)
  · have h := o_pos h c_1
    refine g_iconst C (v := -1) dX11_tick_10 (by decide) 11 rfl ?_
    exact g_iret C hr dX11_tick_11 h
end WK
