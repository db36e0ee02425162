/-! X1_isReady private boolean isReady(int, int); -/
def fX1_isReady (x1 : Int32) (x2 : Int32) (σ : ST) : Option (Int32 × ST) :=
  (if (((gI σ 23) >>> (x1 &&& 31)) &&& ((1 : Int32))) = 0 then (if ix x1 7 then (if x2 < (ldA σ 59 x1) then (some ((0 : Int32), σ)) else (if ix x1 7 then (if ((ldA σ 25 x1) &&& ((gI σ 24) ^^^ ((-1 : Int32)))) = 0 then (some ((1 : Int32), σ)) else (some ((0 : Int32), σ))) else none)) else none) else (some ((0 : Int32), σ)))
section WK
variable {p : Program} {l : Launch} {e : Env} {R : Room} {s : State} {m : MethodId} {args : Array Value} {below : List Frame} {meth : Method} {c : Code} {Q : State → Prop}
variable {D : va_G} {ad : Nat → Nat} {cI cJ cB cZ : ClassId} {A : Nat → Prop} {cc : ByteArray} {nL lev : Nat}
variable {σ : ST} {pc : Nat} {lv : List (Nat × Value)} {st : List Value}
set_option maxHeartbeats 4000000 in
set_option maxRecDepth 100000 in
theorem kX1_isReady {l : Launch} {D : va_G} {ad : Nat → Nat} {cI cJ cB cZ : ClassId}  {x1 : Int32} {x2 : Int32} {σ : ST} {res : Int32 × ST} (h : fX1_isReady x1 x2 σ = some res) : CMi l D (tyz cI cJ cB cZ) (wX ad cI cJ cB cZ) 0 yX1_isReady cX1_isReady 3 (some .boolean) [.ref (ad 58), .int x1, .int x2] σ res := by
  refine cmi_body (own := RX1) (lv := [(0, .ref (ad 58)), (1, .int x1), (2, .int x2)]) (by decide) rfl (wX_addr _ _ _ _ _) (Nat.le_of_ble_eq_true rfl) rfl (fun p e s m args below meth c A C hr => ?_)
  unfold fX1_isReady at h
  refine g_aload_n C dX1_isReady_0 rfl 0 rfl 1 rfl ?_
  refine wgX1_181_58 C dX1_isReady_1 4 rfl ?_
  refine g_iload_n C dX1_isReady_4 rfl 1 rfl 5 rfl ?_
  refine g_ishr C dX1_isReady_5 6 rfl ?_
  refine g_iconst C (v := 1) dX1_isReady_6 (by decide) 7 rfl ?_
  refine g_iand C dX1_isReady_7 8 rfl ?_
  refine g_if_ne C 44 dX1_isReady_8 (by decide) 11 rfl (fun c_1 => ?_) (fun c_1 => ?_)
  · have h := o_neg h c_1
    refine g_iconst C (v := 0) dX1_isReady_44 (by decide) 45 rfl ?_
    exact g_zret C hr (by decide) dX1_isReady_45 h
  · have h := o_pos h c_1
    refine g_aload_n C dX1_isReady_11 rfl 0 rfl 12 rfl ?_
    refine wgX1_9_58 C dX1_isReady_12 15 rfl ?_
    refine g_iload_n C dX1_isReady_15 rfl 1 rfl 16 rfl ?_
    obtain ⟨c_2, h⟩ := o_chk h
    refine wlX_59 C c_2 dX1_isReady_16 17 rfl ?_
    refine g_iload_n C dX1_isReady_17 rfl 2 rfl 18 rfl ?_
    refine g_icmp_gt C 44 dX1_isReady_18 (by decide) 21 rfl (fun c_3 => ?_) (fun c_3 => ?_)
    · have h := o_pos h c_3
      refine g_iconst C (v := 0) dX1_isReady_44 (by decide) 45 rfl ?_
      exact g_zret C hr (by decide) dX1_isReady_45 h
    · have h := o_neg h c_3
      refine g_aload_n C dX1_isReady_21 rfl 0 rfl 22 rfl ?_
      refine wgX1_30_58 C dX1_isReady_22 25 rfl ?_
      refine wgX1_141_19 C dX1_isReady_25 28 rfl ?_
      refine g_iload_n C dX1_isReady_28 rfl 1 rfl 29 rfl ?_
      obtain ⟨c_4, h⟩ := o_chk h
      refine wlX_25 C c_4 dX1_isReady_29 30 rfl ?_
      refine g_aload_n C dX1_isReady_30 rfl 0 rfl 31 rfl ?_
      refine wgX1_198_58 C dX1_isReady_31 34 rfl ?_
      refine g_iconst C (v := -1) dX1_isReady_34 (by decide) 35 rfl ?_
      refine g_ixor C dX1_isReady_35 36 rfl ?_
      refine g_iand C dX1_isReady_36 37 rfl ?_
      refine g_if_ne C 44 dX1_isReady_37 (by decide) 40 rfl (fun c_5 => ?_) (fun c_5 => ?_)
      · have h := o_neg h c_5
        refine g_iconst C (v := 0) dX1_isReady_44 (by decide) 45 rfl ?_
        exact g_zret C hr (by decide) dX1_isReady_45 h
      · have h := o_pos h c_5
        refine g_iconst C (v := 1) dX1_isReady_40 (by decide) 41 rfl ?_
        refine g_goto C 45 dX1_isReady_41 (by decide) ?_
        exact g_zret C hr (by decide) dX1_isReady_45 h
end WK
/-! X1_setEnd private void setEnd(int, int); -/
def fX1_setEnd (x1 : Int32) (x2 : Int32) (σ : ST) : Option (ST) :=
  (if ix x1 7 then (lt (stA σ 61 x1 x2) (fun σ_2 => (Option.bind (fX1_costOf x1 x2 σ_2) (fun q_3 => (if ix x1 7 then (Option.bind (fX1_costOf x1 (ldA q_3.2 60 x1) q_3.2) (fun q_5 => (lt (sI q_5.2 26 ((gI σ_2 26) + (q_3.1 - q_5.1))) (fun σ_6 => (some σ_6))))) else none))))) else none)
section WK
variable {p : Program} {l : Launch} {e : Env} {R : Room} {s : State} {m : MethodId} {args : Array Value} {below : List Frame} {meth : Method} {c : Code} {Q : State → Prop}
variable {D : va_G} {ad : Nat → Nat} {cI cJ cB cZ : ClassId} {A : Nat → Prop} {cc : ByteArray} {nL lev : Nat}
variable {σ : ST} {pc : Nat} {lv : List (Nat × Value)} {st : List Value}
set_option maxHeartbeats 4000000 in
set_option maxRecDepth 100000 in
theorem kX1_setEnd {l : Launch} {D : va_G} {ad : Nat → Nat} {cI cJ cB cZ : ClassId}  {x1 : Int32} {x2 : Int32} {σ : ST} {res : ST} (h : fX1_setEnd x1 x2 σ = some res) : CMv l D (tyz cI cJ cB cZ) (wX ad cI cJ cB cZ) 2 yX1_setEnd cX1_setEnd 3 none [.ref (ad 58), .int x1, .int x2] σ res := by
  refine cmv_body (own := RX1) (lv := [(0, .ref (ad 58)), (1, .int x1), (2, .int x2)]) (by decide) rfl (wX_addr _ _ _ _ _) (Nat.le_of_ble_eq_true rfl) rfl (fun p e s m args below meth c A C hr => ?_)
  unfold fX1_setEnd at h
  refine g_aload_n C dX1_setEnd_0 rfl 0 rfl 1 rfl ?_
  refine wgX1_18_58 C dX1_setEnd_1 4 rfl ?_
  refine g_iload_n C dX1_setEnd_4 rfl 1 rfl 5 rfl ?_
  refine g_iload_n C dX1_setEnd_5 rfl 2 rfl 6 rfl ?_
  obtain ⟨c_1, h⟩ := o_chk h
  obtain ⟨σ_2, eσ_2, h⟩ := o_lt h
  refine wtX_61 C eσ_2 c_1 dX1_setEnd_6 7 rfl ?_
  refine g_aload_n C dX1_setEnd_7 rfl 0 rfl 8 rfl ?_
  refine g_dup C dX1_setEnd_8 rfl 9 rfl ?_
  refine wgX1_74_58 C dX1_setEnd_9 12 rfl ?_
  refine g_aload_n C dX1_setEnd_12 rfl 0 rfl 13 rfl ?_
  refine g_iload_n C dX1_setEnd_13 rfl 1 rfl 14 rfl ?_
  refine g_iload_n C dX1_setEnd_14 rfl 2 rfl 15 rfl ?_
  obtain ⟨q_3, hq_3, h⟩ := o_bind h
  refine wcX1_132_X_58 C (kX1_costOf hq_3) (by decide) (Nat.le_of_ble_eq_true rfl) dX1_setEnd_15 18 rfl ?_
  refine g_aload_n C dX1_setEnd_18 rfl 0 rfl 19 rfl ?_
  refine g_iload_n C dX1_setEnd_19 rfl 1 rfl 20 rfl ?_
  refine g_aload_n C dX1_setEnd_20 rfl 0 rfl 21 rfl ?_
  refine wgX1_15_58 C dX1_setEnd_21 24 rfl ?_
  refine g_iload_n C dX1_setEnd_24 rfl 1 rfl 25 rfl ?_
  obtain ⟨c_4, h⟩ := o_chk h
  refine wlX_60 C c_4 dX1_setEnd_25 26 rfl ?_
  obtain ⟨q_5, hq_5, h⟩ := o_bind h
  refine wcX1_132_X_58 C (kX1_costOf hq_5) (by decide) (Nat.le_of_ble_eq_true rfl) dX1_setEnd_26 29 rfl ?_
  refine g_isub C dX1_setEnd_29 30 rfl ?_
  refine g_iadd C dX1_setEnd_30 31 rfl ?_
  obtain ⟨σ_6, eσ_6, h⟩ := o_lt h
  refine wpX1_74_58 C eσ_6 dX1_setEnd_31 34 rfl ?_
  exact g_vret C hr dX1_setEnd_34 h
end WK
/-! X1_beginFirst private void beginFirst(int, int); -/
def fX1_beginFirst_L5 (k34 : Int32 → Int32 → Int32 → ST → Option (ST)) (k60 : Int32 → Int32 → Int32 → ST → Option (ST)) : Nat → Int32 → Int32 → Int32 → Int32 → ST → Option (ST)
  | 0, _, _, _, _, _ => none
  | n + 1, x1, x2, x3, x4, σ => (if (gI σ 22) ≤ x4 then (k60 x1 x2 x3 σ) else (if ix x4 7 then (Option.bind (fX1_isReady (ldA σ 63 x4) x2 σ) (fun q_5 => (if q_5.1 = 0 then (lt (x4 + 1) (fun x4_7 => (fX1_beginFirst_L5 k34 k60 n x1 x2 x3 x4_7 q_5.2))) else (if x3 = ((-1 : Int32)) then (lt (x4) (fun x3_9 => (lt (x4 + 1) (fun x4_10 => (fX1_beginFirst_L5 k34 k60 n x1 x2 x3_9 x4_10 q_5.2))))) else (k34 x1 x2 x3 q_5.2))))) else none))
def fX1_beginFirst (n : Nat) (x1 : Int32) (x2 : Int32) (σ : ST) : Option (ST) :=
  (lt ((-1 : Int32)) (fun x3_1 => (lt ((0 : Int32)) (fun x4_2 => (fX1_beginFirst_L5 (fun (x1_11 : Int32) (x2_12 : Int32) (x3_13 : Int32) (σ_14 : ST) => (lt (sI σ_14 27 (if (gI σ_14 27) < (x3_13 + ((1 : Int32))) then (x3_13 + ((1 : Int32))) else (gI σ_14 27))) (fun σ_15 => (if x3_13 = ((-1 : Int32)) then (some σ_15) else (if ix x3_13 7 then (lt (ldA σ_15 63 x3_13) (fun x4_18 => (lt (sI σ_15 23 ((gI σ_15 23) ||| (((1 : Int32)) <<< (x4_18 &&& 31)))) (fun σ_19 => (if ix x4_18 7 then (Option.bind (fX1_setEnd x4_18 (if ((x2_12 + (ldA σ_19 21 x4_18)) - ((1 : Int32))) < ((400 : Int32)) then ((x2_12 + (ldA σ_19 21 x4_18)) - ((1 : Int32))) else ((400 : Int32))) σ_19) (fun q_21 => (if ix x4_18 7 then (if ix x1_11 3 then (lt (stA q_21 62 x1_11 ((ldA q_21 61 x4_18) + ((1 : Int32)))) (fun σ_24 => (some σ_24))) else none) else none))) else none))))) else none))))) (fun (x1_25 : Int32) (x2_26 : Int32) (x3_27 : Int32) (σ_28 : ST) => (if x3_27 = ((-1 : Int32)) then (some σ_28) else (if ix x3_27 7 then (lt (ldA σ_28 63 x3_27) (fun x4_31 => (lt (sI σ_28 23 ((gI σ_28 23) ||| (((1 : Int32)) <<< (x4_31 &&& 31)))) (fun σ_32 => (if ix x4_31 7 then (Option.bind (fX1_setEnd x4_31 (if ((x2_26 + (ldA σ_32 21 x4_31)) - ((1 : Int32))) < ((400 : Int32)) then ((x2_26 + (ldA σ_32 21 x4_31)) - ((1 : Int32))) else ((400 : Int32))) σ_32) (fun q_34 => (if ix x4_31 7 then (if ix x1_25 3 then (lt (stA q_34 62 x1_25 ((ldA q_34 61 x4_31) + ((1 : Int32)))) (fun σ_37 => (some σ_37))) else none) else none))) else none))))) else none))) n x1 x2 x3_1 x4_2 σ)))))
section WK
variable {p : Program} {l : Launch} {e : Env} {R : Room} {s : State} {m : MethodId} {args : Array Value} {below : List Frame} {meth : Method} {c : Code} {Q : State → Prop}
variable {D : va_G} {ad : Nat → Nat} {cI cJ cB cZ : ClassId} {A : Nat → Prop} {cc : ByteArray} {nL lev : Nat}
variable {σ : ST} {pc : Nat} {lv : List (Nat × Value)} {st : List Value}
set_option maxHeartbeats 4000000 in
set_option maxRecDepth 100000 in
theorem kX1_beginFirst_L5 (C : Ctx p l e (rmL 3) s m args below meth c D (tyz cI cJ cB cZ) (wX ad cI cJ cB cZ) A cX1_beginFirst 5 3 RX1) (hr : meth.sig.returnType = none) {res : ST} {k34 : Int32 → Int32 → Int32 → ST → Option (ST)} {k60 : Int32 → Int32 → Int32 → ST → Option (ST)} (hk34 : ∀ (x1 : Int32) (x2 : Int32) (x3 : Int32) (σ : ST), k34 x1 x2 x3 σ = some res → G p l e (rmL 3) s m args below meth c (MQ below (Qv D (tyz cI cJ cB cZ) (wX ad cI cJ cB cZ) A res) args s 0 0 A) D (wX ad cI cJ cB cZ) A 5 σ 34 [(0, .ref (ad 58)), (1, .int x1), (2, .int x2), (3, .int x3)] []) (hk60 : ∀ (x1 : Int32) (x2 : Int32) (x3 : Int32) (σ : ST), k60 x1 x2 x3 σ = some res → G p l e (rmL 3) s m args below meth c (MQ below (Qv D (tyz cI cJ cB cZ) (wX ad cI cJ cB cZ) A res) args s 0 0 A) D (wX ad cI cJ cB cZ) A 5 σ 60 [(0, .ref (ad 58)), (1, .int x1), (2, .int x2), (3, .int x3)] []) : ∀ (n : Nat) (x1 : Int32) (x2 : Int32) (x3 : Int32) (x4 : Int32) (σ : ST), fX1_beginFirst_L5 k34 k60 n x1 x2 x3 x4 σ = some res → G p l e (rmL 3) s m args below meth c (MQ below (Qv D (tyz cI cJ cB cZ) (wX ad cI cJ cB cZ) A res) args s 0 0 A) D (wX ad cI cJ cB cZ) A 5 σ 5 [(0, .ref (ad 58)), (1, .int x1), (2, .int x2), (3, .int x3), (4, .int x4)] [] := by
  intro n
  induction n with
  | zero => intro x1 x2 x3 x4 σ h; have h : none = some res := h; cases h
  | succ n ih =>
    intro x1 x2 x3 x4 σ h
    rw [fX1_beginFirst_L5] at h
    refine g_iload C dX1_beginFirst_5 4 rfl 7 rfl ?_
    refine g_aload_n C dX1_beginFirst_7 rfl 0 rfl 8 rfl ?_
    refine wgX1_144_58 C dX1_beginFirst_8 11 rfl ?_
    refine g_icmp_ge C 60 dX1_beginFirst_11 (by decide) 14 rfl (fun c_3 => ?_) (fun c_3 => ?_)
    · have h := o_pos h c_3
      exact g_sub C [0, 1, 2, 3] rfl (hk60 x1 x2 x3 σ h)
    · have h := o_neg h c_3
      refine g_aload_n C dX1_beginFirst_14 rfl 0 rfl 15 rfl ?_
      refine g_aload_n C dX1_beginFirst_15 rfl 0 rfl 16 rfl ?_
      refine wgX1_24_58 C dX1_beginFirst_16 19 rfl ?_
      refine g_iload C dX1_beginFirst_19 4 rfl 21 rfl ?_
      obtain ⟨c_4, h⟩ := o_chk h
      refine wlX_63 C c_4 dX1_beginFirst_21 22 rfl ?_
      refine g_iload_n C dX1_beginFirst_22 rfl 2 rfl 23 rfl ?_
      obtain ⟨q_5, hq_5, h⟩ := o_bind h
      refine wcX1_201_X_58 C (kX1_isReady hq_5) (by decide) (Nat.le_of_ble_eq_true rfl) dX1_beginFirst_23 26 rfl ?_
      refine g_if_eq C 54 dX1_beginFirst_26 (by decide) 29 rfl (fun c_6 => ?_) (fun c_6 => ?_)
      · have h := o_pos h c_6
        obtain ⟨x4_7, ex4_7, h⟩ := o_lt h
        refine g_iinc C (lv' := [(4, .int x4_7), (0, .ref (ad 58)), (1, .int x1), (2, .int x2), (3, .int x3)]) ex4_7 dX1_beginFirst_54 4 rfl (by decide) (by decide) rfl 57 rfl ?_
        refine g_goto C 5 dX1_beginFirst_57 (by decide) ?_
        exact g_sub C [1, 2, 3, 4, 0] rfl (ih x1 x2 x3 x4_7 q_5.2 h)
      · have h := o_neg h c_6
        refine g_iload_n C dX1_beginFirst_29 rfl 3 rfl 30 rfl ?_
        refine g_iconst C (v := -1) dX1_beginFirst_30 (by decide) 31 rfl ?_
        refine g_icmp_eq C 51 dX1_beginFirst_31 (by decide) 34 rfl (fun c_8 => ?_) (fun c_8 => ?_)
        · have h := o_pos h c_8
          refine g_iload C dX1_beginFirst_51 4 rfl 53 rfl ?_
          obtain ⟨x3_9, ex3_9, h⟩ := o_lt h
          refine g_istore_n C (lv' := [(3, .int x3_9), (0, .ref (ad 58)), (1, .int x1), (2, .int x2), (4, .int x4)]) ex3_9 dX1_beginFirst_53 rfl (by decide) rfl 54 rfl ?_
          obtain ⟨x4_10, ex4_10, h⟩ := o_lt h
          refine g_iinc C (lv' := [(4, .int x4_10), (3, .int x3_9), (0, .ref (ad 58)), (1, .int x1), (2, .int x2)]) ex4_10 dX1_beginFirst_54 4 rfl (by decide) (by decide) rfl 57 rfl ?_
          refine g_goto C 5 dX1_beginFirst_57 (by decide) ?_
          exact g_sub C [2, 3, 4, 1, 0] rfl (ih x1 x2 x3_9 x4_10 q_5.2 h)
        · have h := o_neg h c_8
          exact g_sub C [0, 1, 2, 3] rfl (hk34 x1 x2 x3 q_5.2 h)
set_option maxHeartbeats 4000000 in
set_option maxRecDepth 100000 in
theorem kX1_beginFirst {l : Launch} {D : va_G} {ad : Nat → Nat} {cI cJ cB cZ : ClassId}  {n : Nat} {x1 : Int32} {x2 : Int32} {σ : ST} {res : ST} (h : fX1_beginFirst n x1 x2 σ = some res) : CMv l D (tyz cI cJ cB cZ) (wX ad cI cJ cB cZ) 3 yX1_beginFirst cX1_beginFirst 5 none [.ref (ad 58), .int x1, .int x2] σ res := by
  refine cmv_body (own := RX1) (lv := [(0, .ref (ad 58)), (1, .int x1), (2, .int x2)]) (by decide) rfl (wX_addr _ _ _ _ _) (Nat.le_of_ble_eq_true rfl) rfl (fun p e s m args below meth c A C hr => ?_)
  unfold fX1_beginFirst at h
  refine g_iconst C (v := -1) dX1_beginFirst_0 (by decide) 1 rfl ?_
  obtain ⟨x3_1, ex3_1, h⟩ := o_lt h
  refine g_istore_n C (lv' := [(3, .int x3_1), (0, .ref (ad 58)), (1, .int x1), (2, .int x2)]) ex3_1 dX1_beginFirst_1 rfl (by decide) rfl 2 rfl ?_
  refine g_iconst C (v := 0) dX1_beginFirst_2 (by decide) 3 rfl ?_
  obtain ⟨x4_2, ex4_2, h⟩ := o_lt h
  refine g_istore C (lv' := [(4, .int x4_2), (3, .int x3_1), (0, .ref (ad 58)), (1, .int x1), (2, .int x2)]) ex4_2 dX1_beginFirst_3 (by decide) rfl 5 rfl ?_
  exact g_sub C [2, 3, 4, 1, 0] rfl (kX1_beginFirst_L5 C hr (fun x1_11 x2_12 x3_13 σ_14 h => by
      refine g_aload_n C dX1_beginFirst_34 rfl 0 rfl 35 rfl ?_
      refine g_aload_n C dX1_beginFirst_35 rfl 0 rfl 36 rfl ?_
      refine wgX1_192_58 C dX1_beginFirst_36 39 rfl ?_
      refine g_iload_n C dX1_beginFirst_39 rfl 3 rfl 40 rfl ?_
      refine g_iconst C (v := 1) dX1_beginFirst_40 (by decide) 41 rfl ?_
      refine g_iadd C dX1_beginFirst_41 42 rfl ?_
      refine g_max C (inr_35 _ (List.mem_of_getElem? (i := 4) rfl)) (inr_35 _ (List.mem_of_getElem? (i := 5) rfl)) (inr_24 _ (List.mem_of_getElem? (i := 4) rfl)) (inr_35 _ (List.mem_of_getElem? (i := 6) rfl)) (by decide) (Nat.le_of_ble_eq_true rfl) dX1_beginFirst_42 45 rfl ?_
      obtain ⟨σ_15, eσ_15, h⟩ := o_lt h
      refine wpX1_192_58 C eσ_15 dX1_beginFirst_45 48 rfl ?_
      refine g_goto C 60 dX1_beginFirst_48 (by decide) ?_
      refine g_iload_n C dX1_beginFirst_60 rfl 3 rfl 61 rfl ?_
      refine g_iconst C (v := -1) dX1_beginFirst_61 (by decide) 62 rfl ?_
      refine g_icmp_eq C 127 dX1_beginFirst_62 (by decide) 65 rfl (fun c_16 => ?_) (fun c_16 => ?_)
      · have h := o_pos h c_16
        exact g_vret C hr dX1_beginFirst_127 h
      · have h := o_neg h c_16
        refine g_aload_n C dX1_beginFirst_65 rfl 0 rfl 66 rfl ?_
        refine wgX1_24_58 C dX1_beginFirst_66 69 rfl ?_
        refine g_iload_n C dX1_beginFirst_69 rfl 3 rfl 70 rfl ?_
        obtain ⟨c_17, h⟩ := o_chk h
        refine wlX_63 C c_17 dX1_beginFirst_70 71 rfl ?_
        obtain ⟨x4_18, ex4_18, h⟩ := o_lt h
        refine g_istore C (lv' := [(4, .int x4_18), (0, .ref (ad 58)), (1, .int x1_11), (2, .int x2_12), (3, .int x3_13)]) ex4_18 dX1_beginFirst_71 (by decide) rfl 73 rfl ?_
        refine g_aload_n C dX1_beginFirst_73 rfl 1 rfl 74 rfl ?_
        refine g_dup C dX1_beginFirst_74 rfl 75 rfl ?_
        refine wgX1_181_58 C dX1_beginFirst_75 78 rfl ?_
        refine g_iconst C (v := 1) dX1_beginFirst_78 (by decide) 79 rfl ?_
        refine g_iload C dX1_beginFirst_79 0 rfl 81 rfl ?_
        refine g_ishl C dX1_beginFirst_81 82 rfl ?_
        refine g_ior C dX1_beginFirst_82 83 rfl ?_
        obtain ⟨σ_19, eσ_19, h⟩ := o_lt h
        refine wpX1_181_58 C eσ_19 dX1_beginFirst_83 86 rfl ?_
        refine g_aload_n C dX1_beginFirst_86 rfl 1 rfl 87 rfl ?_
        refine g_iload C dX1_beginFirst_87 0 rfl 89 rfl ?_
        refine g_sipush C (v := 400) dX1_beginFirst_89 (by decide) 92 rfl ?_
        refine g_iload_n C dX1_beginFirst_92 rfl 3 rfl 93 rfl ?_
        refine g_aload_n C dX1_beginFirst_93 rfl 1 rfl 94 rfl ?_
        refine wgX1_30_58 C dX1_beginFirst_94 97 rfl ?_
        refine wgX1_113_19 C dX1_beginFirst_97 100 rfl ?_
        refine g_iload C dX1_beginFirst_100 0 rfl 102 rfl ?_
        obtain ⟨c_20, h⟩ := o_chk h
        refine wlX_21 C c_20 dX1_beginFirst_102 103 rfl ?_
        refine g_iadd C dX1_beginFirst_103 104 rfl ?_
        refine g_iconst C (v := 1) dX1_beginFirst_104 (by decide) 105 rfl ?_
        refine g_isub C dX1_beginFirst_105 106 rfl ?_
        refine g_min C (inr_35 _ (List.mem_of_getElem? (i := 3) rfl)) (inr_31 _ (List.mem_of_getElem? (i := 13) rfl)) (inr_24 _ (List.mem_of_getElem? (i := 4) rfl)) (inr_31 _ (List.mem_of_getElem? (i := 14) rfl)) (by decide) (Nat.le_of_ble_eq_true rfl) dX1_beginFirst_106 109 rfl ?_
        obtain ⟨q_21, hq_21, h⟩ := o_bind h
        refine wcX1_184_X_58 C (kX1_setEnd hq_21) (by decide) (Nat.le_of_ble_eq_true rfl) dX1_beginFirst_109 112 rfl ?_
        refine g_aload_n C dX1_beginFirst_112 rfl 1 rfl 113 rfl ?_
        refine wgX1_21_58 C dX1_beginFirst_113 116 rfl ?_
        refine g_iload_n C dX1_beginFirst_116 rfl 2 rfl 117 rfl ?_
        refine g_aload_n C dX1_beginFirst_117 rfl 1 rfl 118 rfl ?_
        refine wgX1_18_58 C dX1_beginFirst_118 121 rfl ?_
        refine g_iload C dX1_beginFirst_121 0 rfl 123 rfl ?_
        obtain ⟨c_22, h⟩ := o_chk h
        refine wlX_61 C c_22 dX1_beginFirst_123 124 rfl ?_
        refine g_iconst C (v := 1) dX1_beginFirst_124 (by decide) 125 rfl ?_
        refine g_iadd C dX1_beginFirst_125 126 rfl ?_
        obtain ⟨c_23, h⟩ := o_chk h
        obtain ⟨σ_24, eσ_24, h⟩ := o_lt h
        refine wtX_62 C eσ_24 c_23 dX1_beginFirst_126 127 rfl ?_
        exact g_vret C hr dX1_beginFirst_127 h) (fun x1_25 x2_26 x3_27 σ_28 h => by
      refine g_iload_n C dX1_beginFirst_60 rfl 3 rfl 61 rfl ?_
      refine g_iconst C (v := -1) dX1_beginFirst_61 (by decide) 62 rfl ?_
      refine g_icmp_eq C 127 dX1_beginFirst_62 (by decide) 65 rfl (fun c_29 => ?_) (fun c_29 => ?_)
      · have h := o_pos h c_29
        exact g_vret C hr dX1_beginFirst_127 h
      · have h := o_neg h c_29
        refine g_aload_n C dX1_beginFirst_65 rfl 0 rfl 66 rfl ?_
        refine wgX1_24_58 C dX1_beginFirst_66 69 rfl ?_
        refine g_iload_n C dX1_beginFirst_69 rfl 3 rfl 70 rfl ?_
        obtain ⟨c_30, h⟩ := o_chk h
        refine wlX_63 C c_30 dX1_beginFirst_70 71 rfl ?_
        obtain ⟨x4_31, ex4_31, h⟩ := o_lt h
        refine g_istore C (lv' := [(4, .int x4_31), (0, .ref (ad 58)), (1, .int x1_25), (2, .int x2_26), (3, .int x3_27)]) ex4_31 dX1_beginFirst_71 (by decide) rfl 73 rfl ?_
        refine g_aload_n C dX1_beginFirst_73 rfl 1 rfl 74 rfl ?_
        refine g_dup C dX1_beginFirst_74 rfl 75 rfl ?_
        refine wgX1_181_58 C dX1_beginFirst_75 78 rfl ?_
        refine g_iconst C (v := 1) dX1_beginFirst_78 (by decide) 79 rfl ?_
        refine g_iload C dX1_beginFirst_79 0 rfl 81 rfl ?_
        refine g_ishl C dX1_beginFirst_81 82 rfl ?_
        refine g_ior C dX1_beginFirst_82 83 rfl ?_
        obtain ⟨σ_32, eσ_32, h⟩ := o_lt h
        refine wpX1_181_58 C eσ_32 dX1_beginFirst_83 86 rfl ?_
        refine g_aload_n C dX1_beginFirst_86 rfl 1 rfl 87 rfl ?_
        refine g_iload C dX1_beginFirst_87 0 rfl 89 rfl ?_
        refine g_sipush C (v := 400) dX1_beginFirst_89 (by decide) 92 rfl ?_
        refine g_iload_n C dX1_beginFirst_92 rfl 3 rfl 93 rfl ?_
        refine g_aload_n C dX1_beginFirst_93 rfl 1 rfl 94 rfl ?_
        refine wgX1_30_58 C dX1_beginFirst_94 97 rfl ?_
        refine wgX1_113_19 C dX1_beginFirst_97 100 rfl ?_
        refine g_iload C dX1_beginFirst_100 0 rfl 102 rfl ?_
        obtain ⟨c_33, h⟩ := o_chk h
        refine wlX_21 C c_33 dX1_beginFirst_102 103 rfl ?_
        refine g_iadd C dX1_beginFirst_103 104 rfl ?_
        refine g_iconst C (v := 1) dX1_beginFirst_104 (by decide) 105 rfl ?_
        refine g_isub C dX1_beginFirst_105 106 rfl ?_
        refine g_min C (inr_35 _ (List.mem_of_getElem? (i := 3) rfl)) (inr_31 _ (List.mem_of_getElem? (i := 13) rfl)) (inr_24 _ (List.mem_of_getElem? (i := 4) rfl)) (inr_31 _ (List.mem_of_getElem? (i := 14) rfl)) (by decide) (Nat.le_of_ble_eq_true rfl) dX1_beginFirst_106 109 rfl ?_
        obtain ⟨q_34, hq_34, h⟩ := o_bind h
        refine wcX1_184_X_58 C (kX1_setEnd hq_34) (by decide) (Nat.le_of_ble_eq_true rfl) dX1_beginFirst_109 112 rfl ?_
        refine g_aload_n C dX1_beginFirst_112 rfl 1 rfl 113 rfl ?_
        refine wgX1_21_58 C dX1_beginFirst_113 116 rfl ?_
        refine g_iload_n C dX1_beginFirst_116 rfl 2 rfl 117 rfl ?_
        refine g_aload_n C dX1_beginFirst_117 rfl 1 rfl 118 rfl ?_
        refine wgX1_18_58 C dX1_beginFirst_118 121 rfl ?_
        refine g_iload C dX1_beginFirst_121 0 rfl 123 rfl ?_
        obtain ⟨c_35, h⟩ := o_chk h
        refine wlX_61 C c_35 dX1_beginFirst_123 124 rfl ?_
        refine g_iconst C (v := 1) dX1_beginFirst_124 (by decide) 125 rfl ?_
        refine g_iadd C dX1_beginFirst_125 126 rfl ?_
        obtain ⟨c_36, h⟩ := o_chk h
        obtain ⟨σ_37, eσ_37, h⟩ := o_lt h
        refine wtX_62 C eσ_37 c_36 dX1_beginFirst_126 127 rfl ?_
        exact g_vret C hr dX1_beginFirst_127 h) n x1 x2 x3_1 x4_2 σ h)
end WK
/-! X1_nextChange private int nextChange(int); -/
def fX1_nextChange_L6 (k44 : Int32 → Int32 → ST → Option (Int32 × ST)) : Nat → Int32 → Int32 → Int32 → ST → Option (Int32 × ST)
  | 0, _, _, _, _ => none
  | n + 1, x1, x2, x3, σ => (if (gI σ 19) ≤ x3 then (k44 x1 x2 σ) else (if ix x3 3 then (if (ldA σ 62 x3) ≤ x1 then (lt (x3 + 1) (fun x3_6 => (fX1_nextChange_L6 k44 n x1 x2 x3_6 σ))) else (if ix x3 3 then (lt (if (ldA σ 62 x3) < x2 then (ldA σ 62 x3) else x2) (fun x2_8 => (lt (x3 + 1) (fun x3_9 => (fX1_nextChange_L6 k44 n x1 x2_8 x3_9 σ))))) else none)) else none))
def fX1_nextChange_L46  : Nat → Int32 → Int32 → Int32 → ST → Option (Int32 × ST)
  | 0, _, _, _, _ => none
  | n + 1, x1, x2, x3, σ => (if (gI σ 22) ≤ x3 then (some (x2, σ)) else (if ix x3 7 then (if ix (ldA σ 63 x3) 7 then (if (ldA σ 59 (ldA σ 63 x3)) ≤ x1 then (lt (x3 + 1) (fun x3_18 => (fX1_nextChange_L46 n x1 x2 x3_18 σ))) else (if ix x3 7 then (if ix (ldA σ 63 x3) 7 then (lt (if (ldA σ 59 (ldA σ 63 x3)) < x2 then (ldA σ 59 (ldA σ 63 x3)) else x2) (fun x2_21 => (lt (x3 + 1) (fun x3_22 => (fX1_nextChange_L46 n x1 x2_21 x3_22 σ))))) else none) else none)) else none) else none))
def fX1_nextChange (n : Nat) (x1 : Int32) (σ : ST) : Option (Int32 × ST) :=
  (lt ((400 : Int32)) (fun x2_1 => (lt ((0 : Int32)) (fun x3_2 => (fX1_nextChange_L6 (fun (x1_10 : Int32) (x2_11 : Int32) (σ_12 : ST) => (lt ((0 : Int32)) (fun x3_13 => (fX1_nextChange_L46 n x1_10 x2_11 x3_13 σ_12)))) n x1 x2_1 x3_2 σ)))))
section WK
variable {p : Program} {l : Launch} {e : Env} {R : Room} {s : State} {m : MethodId} {args : Array Value} {below : List Frame} {meth : Method} {c : Code} {Q : State → Prop}
variable {D : va_G} {ad : Nat → Nat} {cI cJ cB cZ : ClassId} {A : Nat → Prop} {cc : ByteArray} {nL lev : Nat}
variable {σ : ST} {pc : Nat} {lv : List (Nat × Value)} {st : List Value}
set_option maxHeartbeats 4000000 in
set_option maxRecDepth 100000 in
theorem kX1_nextChange_L6 (C : Ctx p l e (rmL 1) s m args below meth c D (tyz cI cJ cB cZ) (wX ad cI cJ cB cZ) A cX1_nextChange 4 1 RX1) (hr : meth.sig.returnType = some .int) {res : Int32 × ST} {k44 : Int32 → Int32 → ST → Option (Int32 × ST)} (hk44 : ∀ (x1 : Int32) (x2 : Int32) (σ : ST), k44 x1 x2 σ = some res → G p l e (rmL 1) s m args below meth c (MQ below (Qi D (tyz cI cJ cB cZ) (wX ad cI cJ cB cZ) A res) args s 0 0 A) D (wX ad cI cJ cB cZ) A 4 σ 44 [(0, .ref (ad 58)), (1, .int x1), (2, .int x2)] []) : ∀ (n : Nat) (x1 : Int32) (x2 : Int32) (x3 : Int32) (σ : ST), fX1_nextChange_L6 k44 n x1 x2 x3 σ = some res → G p l e (rmL 1) s m args below meth c (MQ below (Qi D (tyz cI cJ cB cZ) (wX ad cI cJ cB cZ) A res) args s 0 0 A) D (wX ad cI cJ cB cZ) A 4 σ 6 [(0, .ref (ad 58)), (1, .int x1), (2, .int x2), (3, .int x3)] [] := by
  intro n
  induction n with
  | zero => intro x1 x2 x3 σ h; have h : none = some res := h; cases h
  | succ n ih =>
    intro x1 x2 x3 σ h
    rw [fX1_nextChange_L6] at h
    refine g_iload_n C dX1_nextChange_6 rfl 3 rfl 7 rfl ?_
    refine g_aload_n C dX1_nextChange_7 rfl 0 rfl 8 rfl ?_
    refine wgX1_38_58 C dX1_nextChange_8 11 rfl ?_
    refine wgX1_171_52 C dX1_nextChange_11 14 rfl ?_
    refine g_icmp_ge C 44 dX1_nextChange_14 (by decide) 17 rfl (fun c_3 => ?_) (fun c_3 => ?_)
    · have h := o_pos h c_3
      exact g_sub C [0, 1, 2] rfl (hk44 x1 x2 σ h)
    · have h := o_neg h c_3
      refine g_aload_n C dX1_nextChange_17 rfl 0 rfl 18 rfl ?_
      refine wgX1_21_58 C dX1_nextChange_18 21 rfl ?_
      refine g_iload_n C dX1_nextChange_21 rfl 3 rfl 22 rfl ?_
      obtain ⟨c_4, h⟩ := o_chk h
      refine wlX_62 C c_4 dX1_nextChange_22 23 rfl ?_
      refine g_iload_n C dX1_nextChange_23 rfl 1 rfl 24 rfl ?_
      refine g_icmp_le C 38 dX1_nextChange_24 (by decide) 27 rfl (fun c_5 => ?_) (fun c_5 => ?_)
      · have h := o_pos h c_5
        obtain ⟨x3_6, ex3_6, h⟩ := o_lt h
        refine g_iinc C (lv' := [(3, .int x3_6), (0, .ref (ad 58)), (1, .int x1), (2, .int x2)]) ex3_6 dX1_nextChange_38 3 rfl (by decide) (by decide) rfl 41 rfl ?_
        refine g_goto C 6 dX1_nextChange_41 (by decide) ?_
        exact g_sub C [1, 2, 3, 0] rfl (ih x1 x2 x3_6 σ h)
      · have h := o_neg h c_5
        refine g_iload_n C dX1_nextChange_27 rfl 2 rfl 28 rfl ?_
        refine g_aload_n C dX1_nextChange_28 rfl 0 rfl 29 rfl ?_
        refine wgX1_21_58 C dX1_nextChange_29 32 rfl ?_
        refine g_iload_n C dX1_nextChange_32 rfl 3 rfl 33 rfl ?_
        obtain ⟨c_7, h⟩ := o_chk h
        refine wlX_62 C c_7 dX1_nextChange_33 34 rfl ?_
        refine g_min C (inr_35 _ (List.mem_of_getElem? (i := 3) rfl)) (inr_31 _ (List.mem_of_getElem? (i := 13) rfl)) (inr_24 _ (List.mem_of_getElem? (i := 4) rfl)) (inr_31 _ (List.mem_of_getElem? (i := 14) rfl)) (by decide) (Nat.le_of_ble_eq_true rfl) dX1_nextChange_34 37 rfl ?_
        obtain ⟨x2_8, ex2_8, h⟩ := o_lt h
        refine g_istore_n C (lv' := [(2, .int x2_8), (0, .ref (ad 58)), (1, .int x1), (3, .int x3)]) ex2_8 dX1_nextChange_37 rfl (by decide) rfl 38 rfl ?_
        obtain ⟨x3_9, ex3_9, h⟩ := o_lt h
        refine g_iinc C (lv' := [(3, .int x3_9), (2, .int x2_8), (0, .ref (ad 58)), (1, .int x1)]) ex3_9 dX1_nextChange_38 3 rfl (by decide) (by decide) rfl 41 rfl ?_
        refine g_goto C 6 dX1_nextChange_41 (by decide) ?_
        exact g_sub C [2, 3, 1, 0] rfl (ih x1 x2_8 x3_9 σ h)
set_option maxHeartbeats 4000000 in
set_option maxRecDepth 100000 in
theorem kX1_nextChange_L46 (C : Ctx p l e (rmL 1) s m args below meth c D (tyz cI cJ cB cZ) (wX ad cI cJ cB cZ) A cX1_nextChange 4 1 RX1) (hr : meth.sig.returnType = some .int) {res : Int32 × ST}   : ∀ (n : Nat) (x1 : Int32) (x2 : Int32) (x3 : Int32) (σ : ST), fX1_nextChange_L46 n x1 x2 x3 σ = some res → G p l e (rmL 1) s m args below meth c (MQ below (Qi D (tyz cI cJ cB cZ) (wX ad cI cJ cB cZ) A res) args s 0 0 A) D (wX ad cI cJ cB cZ) A 4 σ 46 [(0, .ref (ad 58)), (1, .int x1), (2, .int x2), (3, .int x3)] [] := by
  intro n
  induction n with
  | zero => intro x1 x2 x3 σ h; have h : none = some res := h; cases h
  | succ n ih =>
    intro x1 x2 x3 σ h
    rw [fX1_nextChange_L46] at h
    refine g_iload_n C dX1_nextChange_46 rfl 3 rfl 47 rfl ?_
    refine g_aload_n C dX1_nextChange_47 rfl 0 rfl 48 rfl ?_
    refine wgX1_144_58 C dX1_nextChange_48 51 rfl ?_
    refine g_icmp_ge C 91 dX1_nextChange_51 (by decide) 54 rfl (fun c_14 => ?_) (fun c_14 => ?_)
    · have h := o_pos h c_14
      refine g_iload_n C dX1_nextChange_91 rfl 2 rfl 92 rfl ?_
      exact g_iret C hr dX1_nextChange_92 h
    · have h := o_neg h c_14
      refine g_aload_n C dX1_nextChange_54 rfl 0 rfl 55 rfl ?_
      refine wgX1_9_58 C dX1_nextChange_55 58 rfl ?_
      refine g_aload_n C dX1_nextChange_58 rfl 0 rfl 59 rfl ?_
      refine wgX1_24_58 C dX1_nextChange_59 62 rfl ?_
      refine g_iload_n C dX1_nextChange_62 rfl 3 rfl 63 rfl ?_
      obtain ⟨c_15, h⟩ := o_chk h
      refine wlX_63 C c_15 dX1_nextChange_63 64 rfl ?_
      obtain ⟨c_16, h⟩ := o_chk h
      refine wlX_59 C c_16 dX1_nextChange_64 65 rfl ?_
      refine g_iload_n C dX1_nextChange_65 rfl 1 rfl 66 rfl ?_
      refine g_icmp_le C 85 dX1_nextChange_66 (by decide) 69 rfl (fun c_17 => ?_) (fun c_17 => ?_)
      · have h := o_pos h c_17
        obtain ⟨x3_18, ex3_18, h⟩ := o_lt h
        refine g_iinc C (lv' := [(3, .int x3_18), (0, .ref (ad 58)), (1, .int x1), (2, .int x2)]) ex3_18 dX1_nextChange_85 3 rfl (by decide) (by decide) rfl 88 rfl ?_
        refine g_goto C 46 dX1_nextChange_88 (by decide) ?_
        exact g_sub C [1, 2, 3, 0] rfl (ih x1 x2 x3_18 σ h)
      · have h := o_neg h c_17
        refine g_iload_n C dX1_nextChange_69 rfl 2 rfl 70 rfl ?_
        refine g_aload_n C dX1_nextChange_70 rfl 0 rfl 71 rfl ?_
        refine wgX1_9_58 C dX1_nextChange_71 74 rfl ?_
        refine g_aload_n C dX1_nextChange_74 rfl 0 rfl 75 rfl ?_
        refine wgX1_24_58 C dX1_nextChange_75 78 rfl ?_
        refine g_iload_n C dX1_nextChange_78 rfl 3 rfl 79 rfl ?_
        obtain ⟨c_19, h⟩ := o_chk h
        refine wlX_63 C c_19 dX1_nextChange_79 80 rfl ?_
        obtain ⟨c_20, h⟩ := o_chk h
        refine wlX_59 C c_20 dX1_nextChange_80 81 rfl ?_
        refine g_min C (inr_35 _ (List.mem_of_getElem? (i := 3) rfl)) (inr_31 _ (List.mem_of_getElem? (i := 13) rfl)) (inr_24 _ (List.mem_of_getElem? (i := 4) rfl)) (inr_31 _ (List.mem_of_getElem? (i := 14) rfl)) (by decide) (Nat.le_of_ble_eq_true rfl) dX1_nextChange_81 84 rfl ?_
        obtain ⟨x2_21, ex2_21, h⟩ := o_lt h
        refine g_istore_n C (lv' := [(2, .int x2_21), (0, .ref (ad 58)), (1, .int x1), (3, .int x3)]) ex2_21 dX1_nextChange_84 rfl (by decide) rfl 85 rfl ?_
        obtain ⟨x3_22, ex3_22, h⟩ := o_lt h
        refine g_iinc C (lv' := [(3, .int x3_22), (2, .int x2_21), (0, .ref (ad 58)), (1, .int x1)]) ex3_22 dX1_nextChange_85 3 rfl (by decide) (by decide) rfl 88 rfl ?_
        refine g_goto C 46 dX1_nextChange_88 (by decide) ?_
        exact g_sub C [2, 3, 1, 0] rfl (ih x1 x2_21 x3_22 σ h)
set_option maxHeartbeats 4000000 in
set_option maxRecDepth 100000 in
theorem kX1_nextChange {l : Launch} {D : va_G} {ad : Nat → Nat} {cI cJ cB cZ : ClassId}  {n : Nat} {x1 : Int32} {σ : ST} {res : Int32 × ST} (h : fX1_nextChange n x1 σ = some res) : CMi l D (tyz cI cJ cB cZ) (wX ad cI cJ cB cZ) 1 yX1_nextChange cX1_nextChange 4 (some .int) [.ref (ad 58), .int x1] σ res := by
  refine cmi_body (own := RX1) (lv := [(0, .ref (ad 58)), (1, .int x1)]) (by decide) rfl (wX_addr _ _ _ _ _) (Nat.le_of_ble_eq_true rfl) rfl (fun p e s m args below meth c A C hr => ?_)
  unfold fX1_nextChange at h
  refine g_sipush C (v := 400) dX1_nextChange_0 (by decide) 3 rfl ?_
  obtain ⟨x2_1, ex2_1, h⟩ := o_lt h
  refine g_istore_n C (lv' := [(2, .int x2_1), (0, .ref (ad 58)), (1, .int x1)]) ex2_1 dX1_nextChange_3 rfl (by decide) rfl 4 rfl ?_
  refine g_iconst C (v := 0) dX1_nextChange_4 (by decide) 5 rfl ?_
  obtain ⟨x3_2, ex3_2, h⟩ := o_lt h
  refine g_istore_n C (lv' := [(3, .int x3_2), (2, .int x2_1), (0, .ref (ad 58)), (1, .int x1)]) ex3_2 dX1_nextChange_5 rfl (by decide) rfl 6 rfl ?_
  exact g_sub C [2, 3, 1, 0] rfl (kX1_nextChange_L6 C hr (fun x1_10 x2_11 σ_12 h => by
      refine g_iconst C (v := 0) dX1_nextChange_44 (by decide) 45 rfl ?_
      obtain ⟨x3_13, ex3_13, h⟩ := o_lt h
      refine g_istore_n C (lv' := [(3, .int x3_13), (0, .ref (ad 58)), (1, .int x1_10), (2, .int x2_11)]) ex3_13 dX1_nextChange_45 rfl (by decide) rfl 46 rfl ?_
      exact g_sub C [1, 2, 3, 0] rfl (kX1_nextChange_L46 C hr  n x1_10 x2_11 x3_13 σ_12 h)) n x1 x2_1 x3_2 σ h)
end WK
/-! X1_runAhead private void runAhead(int); -/
def fX1_runAhead_L36 (k77 : Int32 → Int32 → ST → Option (ST)) : Nat → Int32 → Int32 → Int32 → ST → Option (ST)
  | 0, _, _, _, _ => none
  | n + 1, x1, x2, x3, σ => (if (gI σ 19) ≤ x3 then (k77 x1 x2 σ) else (Option.bind (fX1_isOpen x1 σ) (fun q_9 => (if q_9.1 = 0 then (k77 x1 x2 q_9.2) else (if ix x3 3 then (if x2 < (ldA q_9.2 62 x3) then (lt (x3 + 1) (fun x3_13 => (fX1_runAhead_L36 k77 n x1 x2 x3_13 q_9.2))) else (Option.bind (fX1_beginFirst n x3 x2 q_9.2) (fun q_14 => (lt (x3 + 1) (fun x3_15 => (fX1_runAhead_L36 k77 n x1 x2 x3_15 q_14)))))) else none)))))
def fX1_runAhead_L14 (k92 : ST → Option (ST)) : Nat → Int32 → Int32 → ST → Option (ST)
  | 0, _, _, _ => none
  | n + 1, x1, x2, σ => (if ((399 : Int32)) < x2 then (k92 σ) else (Option.bind (fX1_isOpen x1 σ) (fun q_4 => (if q_4.1 = 0 then (k92 q_4.2) else (Option.bind (fX1_noteEnded n x2 q_4.2) (fun q_6 => (lt ((0 : Int32)) (fun x3_7 => (fX1_runAhead_L36 (fun (x1_16 : Int32) (x2_17 : Int32) (σ_18 : ST) => (Option.bind (fX1_nextChange n x2_17 σ_18) (fun q_19 => (lt (if (x2_17 + ((1 : Int32))) < q_19.1 then q_19.1 else (x2_17 + ((1 : Int32)))) (fun x2_20 => (fX1_runAhead_L14 k92 n x1_16 x2_20 q_19.2)))))) n x1 x2 x3_7 q_6)))))))))
def fX1_runAhead_L94  : Nat → Int32 → ST → Option (ST)
  | 0, _, _ => none
  | n + 1, x2, σ => (if (gI σ 22) ≤ x2 then (some σ) else (if ix x2 7 then (if (((gI σ 23) >>> ((ldA σ 63 x2) &&& 31)) &&& ((1 : Int32))) = 0 then (if ix x2 7 then (Option.bind (fX1_setEnd (ldA σ 63 x2) ((400 : Int32)) σ) (fun q_28 => (lt (x2 + 1) (fun x2_29 => (fX1_runAhead_L94 n x2_29 q_28))))) else none) else (lt (x2 + 1) (fun x2_26 => (fX1_runAhead_L94 n x2_26 σ)))) else none))
def fX1_runAhead (n : Nat) (x1 : Int32) (σ : ST) : Option (ST) :=
  (Option.bind (fX1_startRun n σ) (fun q_1 => (lt ((gI q_1 18) + ((1 : Int32))) (fun x2_2 => (fX1_runAhead_L14 (fun (σ_21 : ST) => (lt ((0 : Int32)) (fun x2_22 => (fX1_runAhead_L94 n x2_22 σ_21)))) n x1 x2_2 q_1)))))
section WK
variable {p : Program} {l : Launch} {e : Env} {R : Room} {s : State} {m : MethodId} {args : Array Value} {below : List Frame} {meth : Method} {c : Code} {Q : State → Prop}
variable {D : va_G} {ad : Nat → Nat} {cI cJ cB cZ : ClassId} {A : Nat → Prop} {cc : ByteArray} {nL lev : Nat}
variable {σ : ST} {pc : Nat} {lv : List (Nat × Value)} {st : List Value}
set_option maxHeartbeats 4000000 in
set_option maxRecDepth 100000 in
theorem kX1_runAhead_L36 (C : Ctx p l e (rmL 4) s m args below meth c D (tyz cI cJ cB cZ) (wX ad cI cJ cB cZ) A cX1_runAhead 4 4 RX1) (hr : meth.sig.returnType = none) {res : ST} {k77 : Int32 → Int32 → ST → Option (ST)} (hk77 : ∀ (x1 : Int32) (x2 : Int32) (σ : ST), k77 x1 x2 σ = some res → G p l e (rmL 4) s m args below meth c (MQ below (Qv D (tyz cI cJ cB cZ) (wX ad cI cJ cB cZ) A res) args s 0 0 A) D (wX ad cI cJ cB cZ) A 4 σ 77 [(0, .ref (ad 58)), (1, .int x1), (2, .int x2)] []) : ∀ (n : Nat) (x1 : Int32) (x2 : Int32) (x3 : Int32) (σ : ST), fX1_runAhead_L36 k77 n x1 x2 x3 σ = some res → G p l e (rmL 4) s m args below meth c (MQ below (Qv D (tyz cI cJ cB cZ) (wX ad cI cJ cB cZ) A res) args s 0 0 A) D (wX ad cI cJ cB cZ) A 4 σ 36 [(0, .ref (ad 58)), (1, .int x1), (2, .int x2), (3, .int x3)] [] := by
  intro n
  induction n with
  | zero => intro x1 x2 x3 σ h; have h : none = some res := h; cases h
  | succ n ih =>
    intro x1 x2 x3 σ h
    rw [fX1_runAhead_L36] at h
    refine g_iload_n C dX1_runAhead_36 rfl 3 rfl 37 rfl ?_
    refine g_aload_n C dX1_runAhead_37 rfl 0 rfl 38 rfl ?_
    refine wgX1_38_58 C dX1_runAhead_38 41 rfl ?_
    refine wgX1_171_52 C dX1_runAhead_41 44 rfl ?_
    refine g_icmp_ge C 77 dX1_runAhead_44 (by decide) 47 rfl (fun c_8 => ?_) (fun c_8 => ?_)
    · have h := o_pos h c_8
      exact g_sub C [0, 1, 2] rfl (hk77 x1 x2 σ h)
    · have h := o_neg h c_8
      refine g_aload_n C dX1_runAhead_47 rfl 0 rfl 48 rfl ?_
      refine g_iload_n C dX1_runAhead_48 rfl 1 rfl 49 rfl ?_
      obtain ⟨q_9, hq_9, h⟩ := o_bind h
      refine wcX1_165_X_58 C (kX1_isOpen hq_9) (by decide) (Nat.le_of_ble_eq_true rfl) dX1_runAhead_49 52 rfl ?_
      refine g_if_eq C 77 dX1_runAhead_52 (by decide) 55 rfl (fun c_10 => ?_) (fun c_10 => ?_)
      · have h := o_pos h c_10
        exact g_sub C [0, 1, 2] rfl (hk77 x1 x2 q_9.2 h)
      · have h := o_neg h c_10
        refine g_aload_n C dX1_runAhead_55 rfl 0 rfl 56 rfl ?_
        refine wgX1_21_58 C dX1_runAhead_56 59 rfl ?_
        refine g_iload_n C dX1_runAhead_59 rfl 3 rfl 60 rfl ?_
        obtain ⟨c_11, h⟩ := o_chk h
        refine wlX_62 C c_11 dX1_runAhead_60 61 rfl ?_
        refine g_iload_n C dX1_runAhead_61 rfl 2 rfl 62 rfl ?_
        refine g_icmp_gt C 71 dX1_runAhead_62 (by decide) 65 rfl (fun c_12 => ?_) (fun c_12 => ?_)
        · have h := o_pos h c_12
          obtain ⟨x3_13, ex3_13, h⟩ := o_lt h
          refine g_iinc C (lv' := [(3, .int x3_13), (0, .ref (ad 58)), (1, .int x1), (2, .int x2)]) ex3_13 dX1_runAhead_71 3 rfl (by decide) (by decide) rfl 74 rfl ?_
          refine g_goto C 36 dX1_runAhead_74 (by decide) ?_
          exact g_sub C [1, 2, 3, 0] rfl (ih x1 x2 x3_13 q_9.2 h)
        · have h := o_neg h c_12
          refine g_aload_n C dX1_runAhead_65 rfl 0 rfl 66 rfl ?_
          refine g_iload_n C dX1_runAhead_66 rfl 3 rfl 67 rfl ?_
          refine g_iload_n C dX1_runAhead_67 rfl 2 rfl 68 rfl ?_
          obtain ⟨q_14, hq_14, h⟩ := o_bind h
          refine wcX1_174_X_58 C (kX1_beginFirst hq_14) (by decide) (Nat.le_of_ble_eq_true rfl) dX1_runAhead_68 71 rfl ?_
          obtain ⟨x3_15, ex3_15, h⟩ := o_lt h
          refine g_iinc C (lv' := [(3, .int x3_15), (0, .ref (ad 58)), (1, .int x1), (2, .int x2)]) ex3_15 dX1_runAhead_71 3 rfl (by decide) (by decide) rfl 74 rfl ?_
          refine g_goto C 36 dX1_runAhead_74 (by decide) ?_
          exact g_sub C [1, 2, 3, 0] rfl (ih x1 x2 x3_15 q_14 h)
set_option maxHeartbeats 4000000 in
set_option maxRecDepth 100000 in
theorem kX1_runAhead_L14 (C : Ctx p l e (rmL 4) s m args below meth c D (tyz cI cJ cB cZ) (wX ad cI cJ cB cZ) A cX1_runAhead 4 4 RX1) (hr : meth.sig.returnType = none) {res : ST} {k92 : ST → Option (ST)} (hk92 : ∀ (σ : ST), k92 σ = some res → G p l e (rmL 4) s m args below meth c (MQ below (Qv D (tyz cI cJ cB cZ) (wX ad cI cJ cB cZ) A res) args s 0 0 A) D (wX ad cI cJ cB cZ) A 4 σ 92 [(0, .ref (ad 58))] []) : ∀ (n : Nat) (x1 : Int32) (x2 : Int32) (σ : ST), fX1_runAhead_L14 k92 n x1 x2 σ = some res → G p l e (rmL 4) s m args below meth c (MQ below (Qv D (tyz cI cJ cB cZ) (wX ad cI cJ cB cZ) A res) args s 0 0 A) D (wX ad cI cJ cB cZ) A 4 σ 14 [(0, .ref (ad 58)), (1, .int x1), (2, .int x2)] [] := by
  intro n
  induction n with
  | zero => intro x1 x2 σ h; have h : none = some res := h; cases h
  | succ n ih =>
    intro x1 x2 σ h
    rw [fX1_runAhead_L14] at h
    refine g_iload_n C dX1_runAhead_14 rfl 2 rfl 15 rfl ?_
    refine g_sipush C (v := 399) dX1_runAhead_15 (by decide) 18 rfl ?_
    refine g_icmp_gt C 92 dX1_runAhead_18 (by decide) 21 rfl (fun c_3 => ?_) (fun c_3 => ?_)
    · have h := o_pos h c_3
      exact g_sub C [0] rfl (hk92 σ h)
    · have h := o_neg h c_3
      refine g_aload_n C dX1_runAhead_21 rfl 0 rfl 22 rfl ?_
      refine g_iload_n C dX1_runAhead_22 rfl 1 rfl 23 rfl ?_
      obtain ⟨q_4, hq_4, h⟩ := o_bind h
      refine wcX1_165_X_58 C (kX1_isOpen hq_4) (by decide) (Nat.le_of_ble_eq_true rfl) dX1_runAhead_23 26 rfl ?_
      refine g_if_eq C 92 dX1_runAhead_26 (by decide) 29 rfl (fun c_5 => ?_) (fun c_5 => ?_)
      · have h := o_pos h c_5
        exact g_sub C [0] rfl (hk92 q_4.2 h)
      · have h := o_neg h c_5
        refine g_aload_n C dX1_runAhead_29 rfl 0 rfl 30 rfl ?_
        refine g_iload_n C dX1_runAhead_30 rfl 2 rfl 31 rfl ?_
        obtain ⟨q_6, hq_6, h⟩ := o_bind h
        refine wcX1_168_X_58 C (kX1_noteEnded hq_6) (by decide) (Nat.le_of_ble_eq_true rfl) dX1_runAhead_31 34 rfl ?_
        refine g_iconst C (v := 0) dX1_runAhead_34 (by decide) 35 rfl ?_
        obtain ⟨x3_7, ex3_7, h⟩ := o_lt h
        refine g_istore_n C (lv' := [(3, .int x3_7), (0, .ref (ad 58)), (1, .int x1), (2, .int x2)]) ex3_7 dX1_runAhead_35 rfl (by decide) rfl 36 rfl ?_
        exact g_sub C [1, 2, 3, 0] rfl (kX1_runAhead_L36 C hr (fun x1_16 x2_17 σ_18 h => by
            refine g_iload_n C dX1_runAhead_77 rfl 2 rfl 78 rfl ?_
            refine g_iconst C (v := 1) dX1_runAhead_78 (by decide) 79 rfl ?_
            refine g_iadd C dX1_runAhead_79 80 rfl ?_
            refine g_aload_n C dX1_runAhead_80 rfl 0 rfl 81 rfl ?_
            refine g_iload_n C dX1_runAhead_81 rfl 2 rfl 82 rfl ?_
            obtain ⟨q_19, hq_19, h⟩ := o_bind h
            refine wcX1_178_X_58 C (kX1_nextChange hq_19) (by decide) (Nat.le_of_ble_eq_true rfl) dX1_runAhead_82 85 rfl ?_
            refine g_max C (inr_35 _ (List.mem_of_getElem? (i := 4) rfl)) (inr_35 _ (List.mem_of_getElem? (i := 5) rfl)) (inr_24 _ (List.mem_of_getElem? (i := 4) rfl)) (inr_35 _ (List.mem_of_getElem? (i := 6) rfl)) (by decide) (Nat.le_of_ble_eq_true rfl) dX1_runAhead_85 88 rfl ?_
            obtain ⟨x2_20, ex2_20, h⟩ := o_lt h
            refine g_istore_n C (lv' := [(2, .int x2_20), (0, .ref (ad 58)), (1, .int x1_16)]) ex2_20 dX1_runAhead_88 rfl (by decide) rfl 89 rfl ?_
            refine g_goto C 14 dX1_runAhead_89 (by decide) ?_
            exact g_sub C [1, 2, 0] rfl (ih x1_16 x2_20 q_19.2 h)) n x1 x2 x3_7 q_6 h)
set_option maxHeartbeats 4000000 in
set_option maxRecDepth 100000 in
theorem kX1_runAhead_L94 (C : Ctx p l e (rmL 4) s m args below meth c D (tyz cI cJ cB cZ) (wX ad cI cJ cB cZ) A cX1_runAhead 4 4 RX1) (hr : meth.sig.returnType = none) {res : ST}   : ∀ (n : Nat) (x2 : Int32) (σ : ST), fX1_runAhead_L94 n x2 σ = some res → G p l e (rmL 4) s m args below meth c (MQ below (Qv D (tyz cI cJ cB cZ) (wX ad cI cJ cB cZ) A res) args s 0 0 A) D (wX ad cI cJ cB cZ) A 4 σ 94 [(0, .ref (ad 58)), (2, .int x2)] [] := by
  intro n
  induction n with
  | zero => intro x2 σ h; have h : none = some res := h; cases h
  | succ n ih =>
    intro x2 σ h
    rw [fX1_runAhead_L94] at h
    refine g_iload_n C dX1_runAhead_94 rfl 1 rfl 95 rfl ?_
    refine g_aload_n C dX1_runAhead_95 rfl 0 rfl 96 rfl ?_
    refine wgX1_144_58 C dX1_runAhead_96 99 rfl ?_
    refine g_icmp_ge C 137 dX1_runAhead_99 (by decide) 102 rfl (fun c_23 => ?_) (fun c_23 => ?_)
    · have h := o_pos h c_23
      exact g_vret C hr dX1_runAhead_137 h
    · have h := o_neg h c_23
      refine g_aload_n C dX1_runAhead_102 rfl 0 rfl 103 rfl ?_
      refine wgX1_181_58 C dX1_runAhead_103 106 rfl ?_
      refine g_aload_n C dX1_runAhead_106 rfl 0 rfl 107 rfl ?_
      refine wgX1_24_58 C dX1_runAhead_107 110 rfl ?_
      refine g_iload_n C dX1_runAhead_110 rfl 1 rfl 111 rfl ?_
      obtain ⟨c_24, h⟩ := o_chk h
      refine wlX_63 C c_24 dX1_runAhead_111 112 rfl ?_
      refine g_ishr C dX1_runAhead_112 113 rfl ?_
      refine g_iconst C (v := 1) dX1_runAhead_113 (by decide) 114 rfl ?_
      refine g_iand C dX1_runAhead_114 115 rfl ?_
      refine g_if_ne C 131 dX1_runAhead_115 (by decide) 118 rfl (fun c_25 => ?_) (fun c_25 => ?_)
      · have h := o_neg h c_25
        obtain ⟨x2_26, ex2_26, h⟩ := o_lt h
        refine g_iinc C (lv' := [(2, .int x2_26), (0, .ref (ad 58))]) ex2_26 dX1_runAhead_131 1 rfl (by decide) (by decide) rfl 134 rfl ?_
        refine g_goto C 94 dX1_runAhead_134 (by decide) ?_
        exact g_sub C [1, 0] rfl (ih x2_26 σ h)
      · have h := o_pos h c_25
        refine g_aload_n C dX1_runAhead_118 rfl 0 rfl 119 rfl ?_
        refine g_aload_n C dX1_runAhead_119 rfl 0 rfl 120 rfl ?_
        refine wgX1_24_58 C dX1_runAhead_120 123 rfl ?_
        refine g_iload_n C dX1_runAhead_123 rfl 1 rfl 124 rfl ?_
        obtain ⟨c_27, h⟩ := o_chk h
        refine wlX_63 C c_27 dX1_runAhead_124 125 rfl ?_
        refine g_sipush C (v := 400) dX1_runAhead_125 (by decide) 128 rfl ?_
        obtain ⟨q_28, hq_28, h⟩ := o_bind h
        refine wcX1_184_X_58 C (kX1_setEnd hq_28) (by decide) (Nat.le_of_ble_eq_true rfl) dX1_runAhead_128 131 rfl ?_
        obtain ⟨x2_29, ex2_29, h⟩ := o_lt h
        refine g_iinc C (lv' := [(2, .int x2_29), (0, .ref (ad 58))]) ex2_29 dX1_runAhead_131 1 rfl (by decide) (by decide) rfl 134 rfl ?_
        refine g_goto C 94 dX1_runAhead_134 (by decide) ?_
        exact g_sub C [1, 0] rfl (ih x2_29 q_28 h)
set_option maxHeartbeats 4000000 in
set_option maxRecDepth 100000 in
theorem kX1_runAhead {l : Launch} {D : va_G} {ad : Nat → Nat} {cI cJ cB cZ : ClassId}  {n : Nat} {x1 : Int32} {σ : ST} {res : ST} (h : fX1_runAhead n x1 σ = some res) : CMv l D (tyz cI cJ cB cZ) (wX ad cI cJ cB cZ) 4 yX1_runAhead cX1_runAhead 4 none [.ref (ad 58), .int x1] σ res := by
  refine cmv_body (own := RX1) (lv := [(0, .ref (ad 58)), (1, .int x1)]) (by decide) rfl (wX_addr _ _ _ _ _) (Nat.le_of_ble_eq_true rfl) rfl (fun p e s m args below meth c A C hr => ?_)
  unfold fX1_runAhead at h
  refine g_aload_n C dX1_runAhead_0 rfl 0 rfl 1 rfl ?_
  obtain ⟨q_1, hq_1, h⟩ := o_bind h
  refine wcX1_162_X_58 C (kX1_startRun hq_1) (by decide) (Nat.le_of_ble_eq_true rfl) dX1_runAhead_1 4 rfl ?_
  refine g_aload_n C dX1_runAhead_4 rfl 0 rfl 5 rfl ?_
  refine wgX1_38_58 C dX1_runAhead_5 8 rfl ?_
  refine wgX1_110_52 C dX1_runAhead_8 11 rfl ?_
  refine g_iconst C (v := 1) dX1_runAhead_11 (by decide) 12 rfl ?_
  refine g_iadd C dX1_runAhead_12 13 rfl ?_
  obtain ⟨x2_2, ex2_2, h⟩ := o_lt h
  refine g_istore_n C (lv' := [(2, .int x2_2), (0, .ref (ad 58)), (1, .int x1)]) ex2_2 dX1_runAhead_13 rfl (by decide) rfl 14 rfl ?_
  exact g_sub C [1, 2, 0] rfl (kX1_runAhead_L14 C hr (fun σ_21 h => by
      refine g_iconst C (v := 0) dX1_runAhead_92 (by decide) 93 rfl ?_
      obtain ⟨x2_22, ex2_22, h⟩ := o_lt h
      refine g_istore_n C (lv' := [(2, .int x2_22), (0, .ref (ad 58))]) ex2_22 dX1_runAhead_93 rfl (by decide) rfl 94 rfl ?_
      exact g_sub C [1, 0] rfl (kX1_runAhead_L94 C hr  n x2_22 σ_21 h)) n x1 x2_2 q_1 h)
end WK
/-! X1_leastAbove private int leastAbove(int); -/
def fX1_leastAbove_L6  : Nat → Int32 → Int32 → Int32 → ST → Option (Int32 × ST)
  | 0, _, _, _, _ => none
  | n + 1, x1, x2, x3, σ => (if (gI σ 22) ≤ x3 then (some (x2, σ)) else (if ix x3 7 then (if ix x1 7 then (if (ldA σ 63 x3) ≤ (ldA σ 63 x1) then (lt (x3 + 1) (fun x3_7 => (fX1_leastAbove_L6 n x1 x2 x3_7 σ))) else (if x2 = ((-1 : Int32)) then (lt (x3) (fun x2_9 => (lt (x3 + 1) (fun x3_10 => (fX1_leastAbove_L6 n x1 x2_9 x3_10 σ))))) else (if ix x3 7 then (if ix x2 7 then (if (ldA σ 63 x2) ≤ (ldA σ 63 x3) then (lt (x3 + 1) (fun x3_14 => (fX1_leastAbove_L6 n x1 x2 x3_14 σ))) else (lt (x3) (fun x2_15 => (lt (x3 + 1) (fun x3_16 => (fX1_leastAbove_L6 n x1 x2_15 x3_16 σ)))))) else none) else none))) else none) else none))
def fX1_leastAbove (n : Nat) (x1 : Int32) (σ : ST) : Option (Int32 × ST) :=
  (lt ((-1 : Int32)) (fun x2_1 => (lt (x1 + ((1 : Int32))) (fun x3_2 => (fX1_leastAbove_L6 n x1 x2_1 x3_2 σ)))))
section WK
variable {p : Program} {l : Launch} {e : Env} {R : Room} {s : State} {m : MethodId} {args : Array Value} {below : List Frame} {meth : Method} {c : Code} {Q : State → Prop}
variable {D : va_G} {ad : Nat → Nat} {cI cJ cB cZ : ClassId} {A : Nat → Prop} {cc : ByteArray} {nL lev : Nat}
variable {σ : ST} {pc : Nat} {lv : List (Nat × Value)} {st : List Value}
set_option maxHeartbeats 4000000 in
set_option maxRecDepth 100000 in
theorem kX1_leastAbove_L6 (C : Ctx p l e (rmL 0) s m args below meth c D (tyz cI cJ cB cZ) (wX ad cI cJ cB cZ) A cX1_leastAbove 4 0 RX1) (hr : meth.sig.returnType = some .int) {res : Int32 × ST}   : ∀ (n : Nat) (x1 : Int32) (x2 : Int32) (x3 : Int32) (σ : ST), fX1_leastAbove_L6 n x1 x2 x3 σ = some res → G p l e (rmL 0) s m args below meth c (MQ below (Qi D (tyz cI cJ cB cZ) (wX ad cI cJ cB cZ) A res) args s 0 0 A) D (wX ad cI cJ cB cZ) A 4 σ 6 [(0, .ref (ad 58)), (1, .int x1), (2, .int x2), (3, .int x3)] [] := by
  intro n
  induction n with
  | zero => intro x1 x2 x3 σ h; have h : none = some res := h; cases h
  | succ n ih =>
    intro x1 x2 x3 σ h
    rw [fX1_leastAbove_L6] at h
    refine g_iload_n C dX1_leastAbove_6 rfl 3 rfl 7 rfl ?_
    refine g_aload_n C dX1_leastAbove_7 rfl 0 rfl 8 rfl ?_
    refine wgX1_144_58 C dX1_leastAbove_8 11 rfl ?_
    refine g_icmp_ge C 57 dX1_leastAbove_11 (by decide) 14 rfl (fun c_3 => ?_) (fun c_3 => ?_)
    · have h := o_pos h c_3
      refine g_iload_n C dX1_leastAbove_57 rfl 2 rfl 58 rfl ?_
      exact g_iret C hr dX1_leastAbove_58 h
    · have h := o_neg h c_3
      refine g_aload_n C dX1_leastAbove_14 rfl 0 rfl 15 rfl ?_
      refine wgX1_24_58 C dX1_leastAbove_15 18 rfl ?_
      refine g_iload_n C dX1_leastAbove_18 rfl 3 rfl 19 rfl ?_
      obtain ⟨c_4, h⟩ := o_chk h
      refine wlX_63 C c_4 dX1_leastAbove_19 20 rfl ?_
      refine g_aload_n C dX1_leastAbove_20 rfl 0 rfl 21 rfl ?_
      refine wgX1_24_58 C dX1_leastAbove_21 24 rfl ?_
      refine g_iload_n C dX1_leastAbove_24 rfl 1 rfl 25 rfl ?_
      obtain ⟨c_5, h⟩ := o_chk h
      refine wlX_63 C c_5 dX1_leastAbove_25 26 rfl ?_
      refine g_icmp_le C 51 dX1_leastAbove_26 (by decide) 29 rfl (fun c_6 => ?_) (fun c_6 => ?_)
      · have h := o_pos h c_6
        obtain ⟨x3_7, ex3_7, h⟩ := o_lt h
        refine g_iinc C (lv' := [(3, .int x3_7), (0, .ref (ad 58)), (1, .int x1), (2, .int x2)]) ex3_7 dX1_leastAbove_51 3 rfl (by decide) (by decide) rfl 54 rfl ?_
        refine g_goto C 6 dX1_leastAbove_54 (by decide) ?_
        exact g_sub C [1, 2, 3, 0] rfl (ih x1 x2 x3_7 σ h)
      · have h := o_neg h c_6
        refine g_iload_n C dX1_leastAbove_29 rfl 2 rfl 30 rfl ?_
        refine g_iconst C (v := -1) dX1_leastAbove_30 (by decide) 31 rfl ?_
        refine g_icmp_eq C 49 dX1_leastAbove_31 (by decide) 34 rfl (fun c_8 => ?_) (fun c_8 => ?_)
        · have h := o_pos h c_8
          refine g_iload_n C dX1_leastAbove_49 rfl 3 rfl 50 rfl ?_
          obtain ⟨x2_9, ex2_9, h⟩ := o_lt h
          refine g_istore_n C (lv' := [(2, .int x2_9), (0, .ref (ad 58)), (1, .int x1), (3, .int x3)]) ex2_9 dX1_leastAbove_50 rfl (by decide) rfl 51 rfl ?_
          obtain ⟨x3_10, ex3_10, h⟩ := o_lt h
          refine g_iinc C (lv' := [(3, .int x3_10), (2, .int x2_9), (0, .ref (ad 58)), (1, .int x1)]) ex3_10 dX1_leastAbove_51 3 rfl (by decide) (by decide) rfl 54 rfl ?_
          refine g_goto C 6 dX1_leastAbove_54 (by decide) ?_
          exact g_sub C [2, 3, 1, 0] rfl (ih x1 x2_9 x3_10 σ h)
        · have h := o_neg h c_8
          refine g_aload_n C dX1_leastAbove_34 rfl 0 rfl 35 rfl ?_
          refine wgX1_24_58 C dX1_leastAbove_35 38 rfl ?_
          refine g_iload_n C dX1_leastAbove_38 rfl 3 rfl 39 rfl ?_
          obtain ⟨c_11, h⟩ := o_chk h
          refine wlX_63 C c_11 dX1_leastAbove_39 40 rfl ?_
          refine g_aload_n C dX1_leastAbove_40 rfl 0 rfl 41 rfl ?_
          refine wgX1_24_58 C dX1_leastAbove_41 44 rfl ?_
          refine g_iload_n C dX1_leastAbove_44 rfl 2 rfl 45 rfl ?_
          obtain ⟨c_12, h⟩ := o_chk h
          refine wlX_63 C c_12 dX1_leastAbove_45 46 rfl ?_
          refine g_icmp_ge C 51 dX1_leastAbove_46 (by decide) 49 rfl (fun c_13 => ?_) (fun c_13 => ?_)
          · have h := o_pos h c_13
            obtain ⟨x3_14, ex3_14, h⟩ := o_lt h
            refine g_iinc C (lv' := [(3, .int x3_14), (0, .ref (ad 58)), (1, .int x1), (2, .int x2)]) ex3_14 dX1_leastAbove_51 3 rfl (by decide) (by decide) rfl 54 rfl ?_
            refine g_goto C 6 dX1_leastAbove_54 (by decide) ?_
            exact g_sub C [1, 2, 3, 0] rfl (ih x1 x2 x3_14 σ h)
          · have h := o_neg h c_13
            refine g_iload_n C dX1_leastAbove_49 rfl 3 rfl 50 rfl ?_
            obtain ⟨x2_15, ex2_15, h⟩ := o_lt h
            refine g_istore_n C (lv' := [(2, .int x2_15), (0, .ref (ad 58)), (1, .int x1), (3, .int x3)]) ex2_15 dX1_leastAbove_50 rfl (by decide) rfl 51 rfl ?_
            obtain ⟨x3_16, ex3_16, h⟩ := o_lt h
            refine g_iinc C (lv' := [(3, .int x3_16), (2, .int x2_15), (0, .ref (ad 58)), (1, .int x1)]) ex3_16 dX1_leastAbove_51 3 rfl (by decide) (by decide) rfl 54 rfl ?_
            refine g_goto C 6 dX1_leastAbove_54 (by decide) ?_
            exact g_sub C [2, 3, 1, 0] rfl (ih x1 x2_15 x3_16 σ h)
set_option maxHeartbeats 4000000 in
set_option maxRecDepth 100000 in
theorem kX1_leastAbove {l : Launch} {D : va_G} {ad : Nat → Nat} {cI cJ cB cZ : ClassId}  {n : Nat} {x1 : Int32} {σ : ST} {res : Int32 × ST} (h : fX1_leastAbove n x1 σ = some res) : CMi l D (tyz cI cJ cB cZ) (wX ad cI cJ cB cZ) 0 yX1_leastAbove cX1_leastAbove 4 (some .int) [.ref (ad 58), .int x1] σ res := by
  refine cmi_body (own := RX1) (lv := [(0, .ref (ad 58)), (1, .int x1)]) (by decide) rfl (wX_addr _ _ _ _ _) (Nat.le_of_ble_eq_true rfl) rfl (fun p e s m args below meth c A C hr => ?_)
  unfold fX1_leastAbove at h
  refine g_iconst C (v := -1) dX1_leastAbove_0 (by decide) 1 rfl ?_
  obtain ⟨x2_1, ex2_1, h⟩ := o_lt h
  refine g_istore_n C (lv' := [(2, .int x2_1), (0, .ref (ad 58)), (1, .int x1)]) ex2_1 dX1_leastAbove_1 rfl (by decide) rfl 2 rfl ?_
  refine g_iload_n C dX1_leastAbove_2 rfl 2 rfl 3 rfl ?_
  refine g_iconst C (v := 1) dX1_leastAbove_3 (by decide) 4 rfl ?_
  refine g_iadd C dX1_leastAbove_4 5 rfl ?_
  obtain ⟨x3_2, ex3_2, h⟩ := o_lt h
  refine g_istore_n C (lv' := [(3, .int x3_2), (2, .int x2_1), (0, .ref (ad 58)), (1, .int x1)]) ex3_2 dX1_leastAbove_5 rfl (by decide) rfl 6 rfl ?_
  exact g_sub C [2, 3, 1, 0] rfl (kX1_leastAbove_L6 C hr  n x1 x2_1 x3_2 σ h)
end WK
/-! X1_sortBehind private void sortBehind(int); -/
def fX1_sortBehind_L16 (k73 : Int32 → ST → Option (ST)) : Nat → Int32 → Int32 → ST → Option (ST)
  | 0, _, _, _ => none
  | n + 1, x2, x3, σ => (if (gI σ 22) ≤ x3 then (k73 x2 σ) else (if ix x3 7 then (if ix x2 7 then (if (ldA σ 63 x2) ≤ (ldA σ 63 x3) then (lt (x3 + 1) (fun x3_8 => (fX1_sortBehind_L16 k73 n x2 x3_8 σ))) else (if ix x2 7 then (lt (ldA σ 63 x2) (fun x4_10 => (if ix x3 7 then (if ix x2 7 then (lt (stA σ 63 x2 (ldA σ 63 x3)) (fun σ_13 => (if ix x3 7 then (lt (stA σ_13 63 x3 x4_10) (fun σ_15 => (lt (x3 + 1) (fun x3_16 => (fX1_sortBehind_L16 k73 n x2 x3_16 σ_15))))) else none))) else none) else none))) else none)) else none) else none))
def fX1_sortBehind_L4  : Nat → Int32 → ST → Option (ST)
  | 0, _, _ => none
  | n + 1, x2, σ => (if (gI σ 22) ≤ x2 then (some σ) else (lt (x2 + ((1 : Int32))) (fun x3_3 => (fX1_sortBehind_L16 (fun (x2_17 : Int32) (σ_18 : ST) => (lt (x2_17 + 1) (fun x2_19 => (fX1_sortBehind_L4 n x2_19 σ_18)))) n x2 x3_3 σ))))
def fX1_sortBehind (n : Nat) (x1 : Int32) (σ : ST) : Option (ST) :=
  (lt (x1 + ((1 : Int32))) (fun x2_1 => (fX1_sortBehind_L4 n x2_1 σ)))
section WK
variable {p : Program} {l : Launch} {e : Env} {R : Room} {s : State} {m : MethodId} {args : Array Value} {below : List Frame} {meth : Method} {c : Code} {Q : State → Prop}
variable {D : va_G} {ad : Nat → Nat} {cI cJ cB cZ : ClassId} {A : Nat → Prop} {cc : ByteArray} {nL lev : Nat}
variable {σ : ST} {pc : Nat} {lv : List (Nat × Value)} {st : List Value}
set_option maxHeartbeats 4000000 in
set_option maxRecDepth 100000 in
theorem kX1_sortBehind_L16 (C : Ctx p l e (rmL 0) s m args below meth c D (tyz cI cJ cB cZ) (wX ad cI cJ cB cZ) A cX1_sortBehind 5 0 RX1) (hr : meth.sig.returnType = none) {res : ST} {k73 : Int32 → ST → Option (ST)} (hk73 : ∀ (x2 : Int32) (σ : ST), k73 x2 σ = some res → G p l e (rmL 0) s m args below meth c (MQ below (Qv D (tyz cI cJ cB cZ) (wX ad cI cJ cB cZ) A res) args s 0 0 A) D (wX ad cI cJ cB cZ) A 5 σ 73 [(0, .ref (ad 58)), (2, .int x2)] []) : ∀ (n : Nat) (x2 : Int32) (x3 : Int32) (σ : ST), fX1_sortBehind_L16 k73 n x2 x3 σ = some res → G p l e (rmL 0) s m args below meth c (MQ below (Qv D (tyz cI cJ cB cZ) (wX ad cI cJ cB cZ) A res) args s 0 0 A) D (wX ad cI cJ cB cZ) A 5 σ 16 [(0, .ref (ad 58)), (2, .int x2), (3, .int x3)] [] := by
  intro n
  induction n with
  | zero => intro x2 x3 σ h; have h : none = some res := h; cases h
  | succ n ih =>
    intro x2 x3 σ h
    rw [fX1_sortBehind_L16] at h
    refine g_iload_n C dX1_sortBehind_16 rfl 2 rfl 17 rfl ?_
    refine g_aload_n C dX1_sortBehind_17 rfl 0 rfl 18 rfl ?_
    refine wgX1_144_58 C dX1_sortBehind_18 21 rfl ?_
    refine g_icmp_ge C 73 dX1_sortBehind_21 (by decide) 24 rfl (fun c_4 => ?_) (fun c_4 => ?_)
    · have h := o_pos h c_4
      exact g_sub C [0, 1] rfl (hk73 x2 σ h)
    · have h := o_neg h c_4
      refine g_aload_n C dX1_sortBehind_24 rfl 0 rfl 25 rfl ?_
      refine wgX1_24_58 C dX1_sortBehind_25 28 rfl ?_
      refine g_iload_n C dX1_sortBehind_28 rfl 2 rfl 29 rfl ?_
      obtain ⟨c_5, h⟩ := o_chk h
      refine wlX_63 C c_5 dX1_sortBehind_29 30 rfl ?_
      refine g_aload_n C dX1_sortBehind_30 rfl 0 rfl 31 rfl ?_
      refine wgX1_24_58 C dX1_sortBehind_31 34 rfl ?_
      refine g_iload_n C dX1_sortBehind_34 rfl 1 rfl 35 rfl ?_
      obtain ⟨c_6, h⟩ := o_chk h
      refine wlX_63 C c_6 dX1_sortBehind_35 36 rfl ?_
      refine g_icmp_ge C 67 dX1_sortBehind_36 (by decide) 39 rfl (fun c_7 => ?_) (fun c_7 => ?_)
      · have h := o_pos h c_7
        obtain ⟨x3_8, ex3_8, h⟩ := o_lt h
        refine g_iinc C (lv' := [(3, .int x3_8), (0, .ref (ad 58)), (2, .int x2)]) ex3_8 dX1_sortBehind_67 2 rfl (by decide) (by decide) rfl 70 rfl ?_
        refine g_goto C 16 dX1_sortBehind_70 (by decide) ?_
        exact g_sub C [1, 2, 0] rfl (ih x2 x3_8 σ h)
      · have h := o_neg h c_7
        refine g_aload_n C dX1_sortBehind_39 rfl 0 rfl 40 rfl ?_
        refine wgX1_24_58 C dX1_sortBehind_40 43 rfl ?_
        refine g_iload_n C dX1_sortBehind_43 rfl 1 rfl 44 rfl ?_
        obtain ⟨c_9, h⟩ := o_chk h
        refine wlX_63 C c_9 dX1_sortBehind_44 45 rfl ?_
        obtain ⟨x4_10, ex4_10, h⟩ := o_lt h
        refine g_istore C (lv' := [(4, .int x4_10), (0, .ref (ad 58)), (2, .int x2), (3, .int x3)]) ex4_10 dX1_sortBehind_45 (by decide) rfl 47 rfl ?_
        refine g_aload_n C dX1_sortBehind_47 rfl 1 rfl 48 rfl ?_
        refine wgX1_24_58 C dX1_sortBehind_48 51 rfl ?_
        refine g_iload_n C dX1_sortBehind_51 rfl 2 rfl 52 rfl ?_
        refine g_aload_n C dX1_sortBehind_52 rfl 1 rfl 53 rfl ?_
        refine wgX1_24_58 C dX1_sortBehind_53 56 rfl ?_
        refine g_iload_n C dX1_sortBehind_56 rfl 3 rfl 57 rfl ?_
        obtain ⟨c_11, h⟩ := o_chk h
        refine wlX_63 C c_11 dX1_sortBehind_57 58 rfl ?_
        obtain ⟨c_12, h⟩ := o_chk h
        obtain ⟨σ_13, eσ_13, h⟩ := o_lt h
        refine wtX_63 C eσ_13 c_12 dX1_sortBehind_58 59 rfl ?_
        refine g_aload_n C dX1_sortBehind_59 rfl 1 rfl 60 rfl ?_
        refine wgX1_24_58 C dX1_sortBehind_60 63 rfl ?_
        refine g_iload_n C dX1_sortBehind_63 rfl 3 rfl 64 rfl ?_
        refine g_iload C dX1_sortBehind_64 0 rfl 66 rfl ?_
        obtain ⟨c_14, h⟩ := o_chk h
        obtain ⟨σ_15, eσ_15, h⟩ := o_lt h
        refine wtX_63 C eσ_15 c_14 dX1_sortBehind_66 67 rfl ?_
        obtain ⟨x3_16, ex3_16, h⟩ := o_lt h
        refine g_iinc C (lv' := [(3, .int x3_16), (4, .int x4_10), (0, .ref (ad 58)), (2, .int x2)]) ex3_16 dX1_sortBehind_67 3 rfl (by decide) (by decide) rfl 70 rfl ?_
        refine g_goto C 16 dX1_sortBehind_70 (by decide) ?_
        exact g_sub C [2, 3, 0] rfl (ih x2 x3_16 σ_15 h)
set_option maxHeartbeats 4000000 in
set_option maxRecDepth 100000 in
theorem kX1_sortBehind_L4 (C : Ctx p l e (rmL 0) s m args below meth c D (tyz cI cJ cB cZ) (wX ad cI cJ cB cZ) A cX1_sortBehind 5 0 RX1) (hr : meth.sig.returnType = none) {res : ST}   : ∀ (n : Nat) (x2 : Int32) (σ : ST), fX1_sortBehind_L4 n x2 σ = some res → G p l e (rmL 0) s m args below meth c (MQ below (Qv D (tyz cI cJ cB cZ) (wX ad cI cJ cB cZ) A res) args s 0 0 A) D (wX ad cI cJ cB cZ) A 5 σ 4 [(0, .ref (ad 58)), (2, .int x2)] [] := by
  intro n
  induction n with
  | zero => intro x2 σ h; have h : none = some res := h; cases h
  | succ n ih =>
    intro x2 σ h
    rw [fX1_sortBehind_L4] at h
    refine g_iload_n C dX1_sortBehind_4 rfl 1 rfl 5 rfl ?_
    refine g_aload_n C dX1_sortBehind_5 rfl 0 rfl 6 rfl ?_
    refine wgX1_144_58 C dX1_sortBehind_6 9 rfl ?_
    refine g_icmp_ge C 79 dX1_sortBehind_9 (by decide) 12 rfl (fun c_2 => ?_) (fun c_2 => ?_)
    · have h := o_pos h c_2
      exact g_vret C hr dX1_sortBehind_79 h
    · have h := o_neg h c_2
      refine g_iload_n C dX1_sortBehind_12 rfl 1 rfl 13 rfl ?_
      refine g_iconst C (v := 1) dX1_sortBehind_13 (by decide) 14 rfl ?_
      refine g_iadd C dX1_sortBehind_14 15 rfl ?_
      obtain ⟨x3_3, ex3_3, h⟩ := o_lt h
      refine g_istore_n C (lv' := [(3, .int x3_3), (0, .ref (ad 58)), (2, .int x2)]) ex3_3 dX1_sortBehind_15 rfl (by decide) rfl 16 rfl ?_
      exact g_sub C [1, 2, 0] rfl (kX1_sortBehind_L16 C hr (fun x2_17 σ_18 h => by
          obtain ⟨x2_19, ex2_19, h⟩ := o_lt h
          refine g_iinc C (lv' := [(2, .int x2_19), (0, .ref (ad 58))]) ex2_19 dX1_sortBehind_73 1 rfl (by decide) (by decide) rfl 76 rfl ?_
          refine g_goto C 4 dX1_sortBehind_76 (by decide) ?_
          exact g_sub C [1, 0] rfl (ih x2_19 σ_18 h)) n x2 x3_3 σ h)
set_option maxHeartbeats 4000000 in
set_option maxRecDepth 100000 in
theorem kX1_sortBehind {l : Launch} {D : va_G} {ad : Nat → Nat} {cI cJ cB cZ : ClassId}  {n : Nat} {x1 : Int32} {σ : ST} {res : ST} (h : fX1_sortBehind n x1 σ = some res) : CMv l D (tyz cI cJ cB cZ) (wX ad cI cJ cB cZ) 0 yX1_sortBehind cX1_sortBehind 5 none [.ref (ad 58), .int x1] σ res := by
  refine cmv_body (own := RX1) (lv := [(0, .ref (ad 58)), (1, .int x1)]) (by decide) rfl (wX_addr _ _ _ _ _) (Nat.le_of_ble_eq_true rfl) rfl (fun p e s m args below meth c A C hr => ?_)
  unfold fX1_sortBehind at h
  refine g_iload_n C dX1_sortBehind_0 rfl 1 rfl 1 rfl ?_
  refine g_iconst C (v := 1) dX1_sortBehind_1 (by decide) 2 rfl ?_
  refine g_iadd C dX1_sortBehind_2 3 rfl ?_
  obtain ⟨x2_1, ex2_1, h⟩ := o_lt h
  refine g_istore_n C (lv' := [(2, .int x2_1), (0, .ref (ad 58)), (1, .int x1)]) ex2_1 dX1_sortBehind_3 rfl (by decide) rfl 4 rfl ?_
  exact g_sub C [1, 0] rfl (kX1_sortBehind_L4 C hr  n x2_1 σ h)
end WK
/-! X1_nextQueue private boolean nextQueue(); -/
def fX1_nextQueue_L7 (k22 : Int32 → Int32 → ST → Option (Int32 × ST)) : Nat → Int32 → ST → Option (Int32 × ST)
  | 0, _, _ => none
  | n + 1, x1, σ => (if x1 < 0 then (some ((0 : Int32), σ)) else (Option.bind (fX1_leastAbove n x1 σ) (fun q_3 => (lt (q_3.1) (fun x2_4 => (if x2_4 = ((-1 : Int32)) then (lt (x1 + (-1)) (fun x1_6 => (fX1_nextQueue_L7 k22 n x1_6 q_3.2))) else (k22 x1 x2_4 q_3.2)))))))
def fX1_nextQueue (n : Nat)  (σ : ST) : Option (Int32 × ST) :=
  (lt ((gI σ 27) - ((1 : Int32))) (fun x1_1 => (fX1_nextQueue_L7 (fun (x1_7 : Int32) (x2_8 : Int32) (σ_9 : ST) => (if ix x1_7 7 then (lt (ldA σ_9 63 x1_7) (fun x3_11 => (if ix x2_8 7 then (if ix x1_7 7 then (lt (stA σ_9 63 x1_7 (ldA σ_9 63 x2_8)) (fun σ_14 => (if ix x2_8 7 then (lt (stA σ_14 63 x2_8 x3_11) (fun σ_16 => (Option.bind (fX1_sortBehind n x1_7 σ_16) (fun q_17 => (some ((1 : Int32), q_17)))))) else none))) else none) else none))) else none)) n x1_1 σ)))
section WK
variable {p : Program} {l : Launch} {e : Env} {R : Room} {s : State} {m : MethodId} {args : Array Value} {below : List Frame} {meth : Method} {c : Code} {Q : State → Prop}
variable {D : va_G} {ad : Nat → Nat} {cI cJ cB cZ : ClassId} {A : Nat → Prop} {cc : ByteArray} {nL lev : Nat}
variable {σ : ST} {pc : Nat} {lv : List (Nat × Value)} {st : List Value}
set_option maxHeartbeats 4000000 in
set_option maxRecDepth 100000 in
theorem kX1_nextQueue_L7 (C : Ctx p l e (rmL 1) s m args below meth c D (tyz cI cJ cB cZ) (wX ad cI cJ cB cZ) A cX1_nextQueue 4 1 RX1) (hr : meth.sig.returnType = some .boolean) {res : Int32 × ST} {k22 : Int32 → Int32 → ST → Option (Int32 × ST)} (hk22 : ∀ (x1 : Int32) (x2 : Int32) (σ : ST), k22 x1 x2 σ = some res → G p l e (rmL 1) s m args below meth c (MQ below (Qi D (tyz cI cJ cB cZ) (wX ad cI cJ cB cZ) A res) args s 0 0 A) D (wX ad cI cJ cB cZ) A 4 σ 22 [(0, .ref (ad 58)), (1, .int x1), (2, .int x2)] []) : ∀ (n : Nat) (x1 : Int32) (σ : ST), fX1_nextQueue_L7 k22 n x1 σ = some res → G p l e (rmL 1) s m args below meth c (MQ below (Qi D (tyz cI cJ cB cZ) (wX ad cI cJ cB cZ) A res) args s 0 0 A) D (wX ad cI cJ cB cZ) A 4 σ 7 [(0, .ref (ad 58)), (1, .int x1)] [] := by
  intro n
  induction n with
  | zero => intro x1 σ h; have h : none = some res := h; cases h
  | succ n ih =>
    intro x1 σ h
    rw [fX1_nextQueue_L7] at h
    refine g_iload_n C dX1_nextQueue_7 rfl 1 rfl 8 rfl ?_
    refine g_if_lt C 61 dX1_nextQueue_8 (by decide) 11 rfl (fun c_2 => ?_) (fun c_2 => ?_)
    · have h := o_pos h c_2
      refine g_iconst C (v := 0) dX1_nextQueue_61 (by decide) 62 rfl ?_
      exact g_zret C hr (by decide) dX1_nextQueue_62 h
    · have h := o_neg h c_2
      refine g_aload_n C dX1_nextQueue_11 rfl 0 rfl 12 rfl ?_
      refine g_iload_n C dX1_nextQueue_12 rfl 1 rfl 13 rfl ?_
      obtain ⟨q_3, hq_3, h⟩ := o_bind h
      refine wcX1_210_X_58 C (kX1_leastAbove hq_3) (by decide) (Nat.le_of_ble_eq_true rfl) dX1_nextQueue_13 16 rfl ?_
      obtain ⟨x2_4, ex2_4, h⟩ := o_lt h
      refine g_istore_n C (lv' := [(2, .int x2_4), (0, .ref (ad 58)), (1, .int x1)]) ex2_4 dX1_nextQueue_16 rfl (by decide) rfl 17 rfl ?_
      refine g_iload_n C dX1_nextQueue_17 rfl 0 rfl 18 rfl ?_
      refine g_iconst C (v := -1) dX1_nextQueue_18 (by decide) 19 rfl ?_
      refine g_icmp_eq C 55 dX1_nextQueue_19 (by decide) 22 rfl (fun c_5 => ?_) (fun c_5 => ?_)
      · have h := o_pos h c_5
        obtain ⟨x1_6, ex1_6, h⟩ := o_lt h
        refine g_iinc C (lv' := [(1, .int x1_6), (2, .int x2_4), (0, .ref (ad 58))]) ex1_6 dX1_nextQueue_55 2 rfl (by decide) (by decide) rfl 58 rfl ?_
        refine g_goto C 7 dX1_nextQueue_58 (by decide) ?_
        exact g_sub C [2, 0] rfl (ih x1_6 q_3.2 h)
      · have h := o_neg h c_5
        exact g_sub C [1, 2, 0] rfl (hk22 x1 x2_4 q_3.2 h)
set_option maxHeartbeats 4000000 in
set_option maxRecDepth 100000 in
theorem kX1_nextQueue {l : Launch} {D : va_G} {ad : Nat → Nat} {cI cJ cB cZ : ClassId}  {n : Nat}  {σ : ST} {res : Int32 × ST} (h : fX1_nextQueue n σ = some res) : CMi l D (tyz cI cJ cB cZ) (wX ad cI cJ cB cZ) 1 yX1_nextQueue cX1_nextQueue 4 (some .boolean) [.ref (ad 58)] σ res := by
  refine cmi_body (own := RX1) (lv := [(0, .ref (ad 58))]) (by decide) rfl (wX_addr _ _ _ _ _) (Nat.le_of_ble_eq_true rfl) rfl (fun p e s m args below meth c A C hr => ?_)
  unfold fX1_nextQueue at h
  refine g_aload_n C dX1_nextQueue_0 rfl 0 rfl 1 rfl ?_
  refine wgX1_192_58 C dX1_nextQueue_1 4 rfl ?_
  refine g_iconst C (v := 1) dX1_nextQueue_4 (by decide) 5 rfl ?_
  refine g_isub C dX1_nextQueue_5 6 rfl ?_
  obtain ⟨x1_1, ex1_1, h⟩ := o_lt h
  refine g_istore_n C (lv' := [(1, .int x1_1), (0, .ref (ad 58))]) ex1_1 dX1_nextQueue_6 rfl (by decide) rfl 7 rfl ?_
  exact g_sub C [1, 0] rfl (kX1_nextQueue_L7 C hr (fun x1_7 x2_8 σ_9 h => by
      refine g_aload_n C dX1_nextQueue_22 rfl 0 rfl 23 rfl ?_
      refine wgX1_24_58 C dX1_nextQueue_23 26 rfl ?_
      refine g_iload_n C dX1_nextQueue_26 rfl 1 rfl 27 rfl ?_
      obtain ⟨c_10, h⟩ := o_chk h
      refine wlX_63 C c_10 dX1_nextQueue_27 28 rfl ?_
      obtain ⟨x3_11, ex3_11, h⟩ := o_lt h
      refine g_istore_n C (lv' := [(3, .int x3_11), (0, .ref (ad 58)), (1, .int x1_7), (2, .int x2_8)]) ex3_11 dX1_nextQueue_28 rfl (by decide) rfl 29 rfl ?_
      refine g_aload_n C dX1_nextQueue_29 rfl 1 rfl 30 rfl ?_
      refine wgX1_24_58 C dX1_nextQueue_30 33 rfl ?_
      refine g_iload_n C dX1_nextQueue_33 rfl 2 rfl 34 rfl ?_
      refine g_aload_n C dX1_nextQueue_34 rfl 1 rfl 35 rfl ?_
      refine wgX1_24_58 C dX1_nextQueue_35 38 rfl ?_
      refine g_iload_n C dX1_nextQueue_38 rfl 3 rfl 39 rfl ?_
      obtain ⟨c_12, h⟩ := o_chk h
      refine wlX_63 C c_12 dX1_nextQueue_39 40 rfl ?_
      obtain ⟨c_13, h⟩ := o_chk h
      obtain ⟨σ_14, eσ_14, h⟩ := o_lt h
      refine wtX_63 C eσ_14 c_13 dX1_nextQueue_40 41 rfl ?_
      refine g_aload_n C dX1_nextQueue_41 rfl 1 rfl 42 rfl ?_
      refine wgX1_24_58 C dX1_nextQueue_42 45 rfl ?_
      refine g_iload_n C dX1_nextQueue_45 rfl 3 rfl 46 rfl ?_
      refine g_iload_n C dX1_nextQueue_46 rfl 0 rfl 47 rfl ?_
      obtain ⟨c_15, h⟩ := o_chk h
      obtain ⟨σ_16, eσ_16, h⟩ := o_lt h
      refine wtX_63 C eσ_16 c_15 dX1_nextQueue_47 48 rfl ?_
      refine g_aload_n C dX1_nextQueue_48 rfl 1 rfl 49 rfl ?_
      refine g_iload_n C dX1_nextQueue_49 rfl 2 rfl 50 rfl ?_
      obtain ⟨q_17, hq_17, h⟩ := o_bind h
      refine wcX1_213_X_58 C (kX1_sortBehind hq_17) (by decide) (Nat.le_of_ble_eq_true rfl) dX1_nextQueue_50 53 rfl ?_
      refine g_iconst C (v := 1) dX1_nextQueue_53 (by decide) 54 rfl ?_
      exact g_zret C hr (by decide) dX1_nextQueue_54 h) n x1_1 σ h)
end WK
/-! X1_keepBest private void keepBest(); -/
def fX1_keepBest  (σ : ST) : Option (ST) :=
  (lt (sA σ 64 (va_cpy (gA σ 63) (gA σ 64) ((0 : Int32)).toNatClampNeg ((0 : Int32)).toNatClampNeg ((7 : Int32)).toNatClampNeg)) (fun σ_1 => (some σ_1)))
section WK
variable {p : Program} {l : Launch} {e : Env} {R : Room} {s : State} {m : MethodId} {args : Array Value} {below : List Frame} {meth : Method} {c : Code} {Q : State → Prop}
variable {D : va_G} {ad : Nat → Nat} {cI cJ cB cZ : ClassId} {A : Nat → Prop} {cc : ByteArray} {nL lev : Nat}
variable {σ : ST} {pc : Nat} {lv : List (Nat × Value)} {st : List Value}
set_option maxHeartbeats 4000000 in
set_option maxRecDepth 100000 in
theorem kX1_keepBest {l : Launch} {D : va_G} {ad : Nat → Nat} {cI cJ cB cZ : ClassId}   {σ : ST} {res : ST} (h : fX1_keepBest σ = some res) : CMv l D (tyz cI cJ cB cZ) (wX ad cI cJ cB cZ) 1 yX1_keepBest cX1_keepBest 1 none [.ref (ad 58)] σ res := by
  refine cmv_body (own := RX1) (lv := [(0, .ref (ad 58))]) (by decide) rfl (wX_addr _ _ _ _ _) (Nat.le_of_ble_eq_true rfl) rfl (fun p e s m args below meth c A C hr => ?_)
  unfold fX1_keepBest at h
  refine g_aload_n C dX1_keepBest_0 rfl 0 rfl 1 rfl ?_
  refine wgX1_24_58 C dX1_keepBest_1 4 rfl ?_
  refine g_iconst C (v := 0) dX1_keepBest_4 (by decide) 5 rfl ?_
  refine g_aload_n C dX1_keepBest_5 rfl 0 rfl 6 rfl ?_
  refine wgX1_27_58 C dX1_keepBest_6 9 rfl ?_
  refine g_iconst C (v := 0) dX1_keepBest_9 (by decide) 10 rfl ?_
  refine g_bipush C (v := 7) dX1_keepBest_10 (by decide) 12 rfl ?_
  obtain ⟨σ_1, eσ_1, h⟩ := o_lt h
  refine g_copyi C (σ' := σ_1) (inr_38 _ (List.mem_of_getElem? (i := 16) rfl)) (inr_18 _ (List.mem_of_getElem? (i := 10) rfl)) (inr_18 _ (List.mem_of_getElem? (i := 11) rfl)) (inr_18 _ (List.mem_of_getElem? (i := 12) rfl)) 0 (wX_at_63 _) (wX_at_64 _) rfl (by decide) (by decide) (by decide) (by decide) (by decide) (by decide) (Nat.le_of_ble_eq_true rfl) dX1_keepBest_12 (by rw [eσ_1]; exact wX_set_64 _ _) 15 rfl ?_
  exact g_vret C hr dX1_keepBest_15 h
end WK
/-! X1_nextIdle private int nextIdle(int); -/
def fX1_nextIdle_L2  : Nat → Int32 → ST → Option (Int32 × ST)
  | 0, _, _ => none
  | n + 1, x2, σ => (if (gI σ 10) ≤ x2 then (some ((7 : Int32), σ)) else (Option.bind (fX1_isWaiting x2 σ) (fun q_3 => (if q_3.1 = 0 then (some (x2, q_3.2)) else (lt (x2 + 1) (fun x2_5 => (fX1_nextIdle_L2 n x2_5 q_3.2)))))))
def fX1_nextIdle (n : Nat) (x1 : Int32) (σ : ST) : Option (Int32 × ST) :=
  (lt (x1) (fun x2_1 => (fX1_nextIdle_L2 n x2_1 σ)))
section WK
variable {p : Program} {l : Launch} {e : Env} {R : Room} {s : State} {m : MethodId} {args : Array Value} {below : List Frame} {meth : Method} {c : Code} {Q : State → Prop}
variable {D : va_G} {ad : Nat → Nat} {cI cJ cB cZ : ClassId} {A : Nat → Prop} {cc : ByteArray} {nL lev : Nat}
variable {σ : ST} {pc : Nat} {lv : List (Nat × Value)} {st : List Value}
set_option maxHeartbeats 4000000 in
set_option maxRecDepth 100000 in
theorem kX1_nextIdle_L2 (C : Ctx p l e (rmL 2) s m args below meth c D (tyz cI cJ cB cZ) (wX ad cI cJ cB cZ) A cX1_nextIdle 3 2 RX1) (hr : meth.sig.returnType = some .int) {res : Int32 × ST}   : ∀ (n : Nat) (x2 : Int32) (σ : ST), fX1_nextIdle_L2 n x2 σ = some res → G p l e (rmL 2) s m args below meth c (MQ below (Qi D (tyz cI cJ cB cZ) (wX ad cI cJ cB cZ) A res) args s 0 0 A) D (wX ad cI cJ cB cZ) A 3 σ 2 [(0, .ref (ad 58)), (2, .int x2)] [] := by
  intro n
  induction n with
  | zero => intro x2 σ h; have h : none = some res := h; cases h
  | succ n ih =>
    intro x2 σ h
    rw [fX1_nextIdle_L2] at h
    refine g_iload_n C dX1_nextIdle_2 rfl 1 rfl 3 rfl ?_
    refine g_aload_n C dX1_nextIdle_3 rfl 0 rfl 4 rfl ?_
    refine wgX1_30_58 C dX1_nextIdle_4 7 rfl ?_
    refine wgX1_91_19 C dX1_nextIdle_7 10 rfl ?_
    refine g_icmp_ge C 29 dX1_nextIdle_10 (by decide) 13 rfl (fun c_2 => ?_) (fun c_2 => ?_)
    · have h := o_pos h c_2
      refine g_bipush C (v := 7) dX1_nextIdle_29 (by decide) 31 rfl ?_
      exact g_iret C hr dX1_nextIdle_31 h
    · have h := o_neg h c_2
      refine g_aload_n C dX1_nextIdle_13 rfl 0 rfl 14 rfl ?_
      refine g_iload_n C dX1_nextIdle_14 rfl 1 rfl 15 rfl ?_
      obtain ⟨q_3, hq_3, h⟩ := o_bind h
      refine wcX1_153_X_58 C (kX1_isWaiting hq_3) (by decide) (Nat.le_of_ble_eq_true rfl) dX1_nextIdle_15 18 rfl ?_
      refine g_if_ne C 23 dX1_nextIdle_18 (by decide) 21 rfl (fun c_4 => ?_) (fun c_4 => ?_)
      · have h := o_neg h c_4
        obtain ⟨x2_5, ex2_5, h⟩ := o_lt h
        refine g_iinc C (lv' := [(2, .int x2_5), (0, .ref (ad 58))]) ex2_5 dX1_nextIdle_23 1 rfl (by decide) (by decide) rfl 26 rfl ?_
        refine g_goto C 2 dX1_nextIdle_26 (by decide) ?_
        exact g_sub C [1, 0] rfl (ih x2_5 q_3.2 h)
      · have h := o_pos h c_4
        refine g_iload_n C dX1_nextIdle_21 rfl 1 rfl 22 rfl ?_
        exact g_iret C hr dX1_nextIdle_22 h
set_option maxHeartbeats 4000000 in
set_option maxRecDepth 100000 in
theorem kX1_nextIdle {l : Launch} {D : va_G} {ad : Nat → Nat} {cI cJ cB cZ : ClassId}  {n : Nat} {x1 : Int32} {σ : ST} {res : Int32 × ST} (h : fX1_nextIdle n x1 σ = some res) : CMi l D (tyz cI cJ cB cZ) (wX ad cI cJ cB cZ) 2 yX1_nextIdle cX1_nextIdle 3 (some .int) [.ref (ad 58), .int x1] σ res := by
  refine cmi_body (own := RX1) (lv := [(0, .ref (ad 58)), (1, .int x1)]) (by decide) rfl (wX_addr _ _ _ _ _) (Nat.le_of_ble_eq_true rfl) rfl (fun p e s m args below meth c A C hr => ?_)
  unfold fX1_nextIdle at h
  refine g_iload_n C dX1_nextIdle_0 rfl 1 rfl 1 rfl ?_
  obtain ⟨x2_1, ex2_1, h⟩ := o_lt h
  refine g_istore_n C (lv' := [(2, .int x2_1), (0, .ref (ad 58)), (1, .int x1)]) ex2_1 dX1_nextIdle_1 rfl (by decide) rfl 2 rfl ?_
  exact g_sub C [1, 0] rfl (kX1_nextIdle_L2 C hr  n x2_1 σ h)
end WK
/-! X1_orderByBest private void orderByBest(); -/
def fX1_orderByBest_L10  : Nat → Int32 → Int32 → Int32 → ST → Option (ST)
  | 0, _, _, _, _ => none
  | n + 1, x1, x2, x3, σ => (if (gI σ 10) ≤ x3 then (some σ) else (lt (fun (x1_6 : Int32) (x2_7 : Int32) (x3_8 : Int32) (σ_9 : ST) => (if ix x3_8 7 then (lt (stA σ_9 54 x3_8 x2_7) (fun σ_11 => (Option.bind (fX1_nextIdle n (x2_7 + ((1 : Int32))) σ_11) (fun q_12 => (lt (q_12.1) (fun x2_13 => (lt (x3_8 + 1) (fun x3_14 => (fX1_orderByBest_L10 n x1_6 x2_13 x3_14 q_12.2))))))))) else none)) (fun j39 => (if (gI σ 22) ≤ x1 then (j39 x1 x2 x3 σ) else (if ix x1 7 then (if (ldA σ 64 x1) ≤ x2 then (if ix x1 7 then (if ix x3 7 then (lt (stA σ 54 x3 (ldA σ 64 x1)) (fun σ_20 => (lt (x1 + 1) (fun x1_21 => (lt (x3 + 1) (fun x3_22 => (fX1_orderByBest_L10 n x1_21 x2 x3_22 σ_20))))))) else none) else none) else (j39 x1 x2 x3 σ)) else none)))))
def fX1_orderByBest (n : Nat)  (σ : ST) : Option (ST) :=
  (lt ((0 : Int32)) (fun x1_1 => (Option.bind (fX1_nextIdle n ((0 : Int32)) σ) (fun q_2 => (lt (q_2.1) (fun x2_3 => (lt ((0 : Int32)) (fun x3_4 => (fX1_orderByBest_L10 n x1_1 x2_3 x3_4 q_2.2)))))))))
section WK
variable {p : Program} {l : Launch} {e : Env} {R : Room} {s : State} {m : MethodId} {args : Array Value} {below : List Frame} {meth : Method} {c : Code} {Q : State → Prop}
variable {D : va_G} {ad : Nat → Nat} {cI cJ cB cZ : ClassId} {A : Nat → Prop} {cc : ByteArray} {nL lev : Nat}
variable {σ : ST} {pc : Nat} {lv : List (Nat × Value)} {st : List Value}
set_option maxHeartbeats 4000000 in
set_option maxRecDepth 100000 in
theorem kX1_orderByBest_L10 (C : Ctx p l e (rmL 3) s m args below meth c D (tyz cI cJ cB cZ) (wX ad cI cJ cB cZ) A cX1_orderByBest 4 3 RX1) (hr : meth.sig.returnType = none) {res : ST}   : ∀ (n : Nat) (x1 : Int32) (x2 : Int32) (x3 : Int32) (σ : ST), fX1_orderByBest_L10 n x1 x2 x3 σ = some res → G p l e (rmL 3) s m args below meth c (MQ below (Qv D (tyz cI cJ cB cZ) (wX ad cI cJ cB cZ) A res) args s 0 0 A) D (wX ad cI cJ cB cZ) A 4 σ 10 [(0, .ref (ad 58)), (1, .int x1), (2, .int x2), (3, .int x3)] [] := by
  intro n
  induction n with
  | zero => intro x1 x2 x3 σ h; have h : none = some res := h; cases h
  | succ n ih =>
    intro x1 x2 x3 σ h
    rw [fX1_orderByBest_L10] at h
    refine g_iload_n C dX1_orderByBest_10 rfl 3 rfl 11 rfl ?_
    refine g_aload_n C dX1_orderByBest_11 rfl 0 rfl 12 rfl ?_
    refine wgX1_30_58 C dX1_orderByBest_12 15 rfl ?_
    refine wgX1_91_19 C dX1_orderByBest_15 18 rfl ?_
    refine g_icmp_ge C 84 dX1_orderByBest_18 (by decide) 21 rfl (fun c_5 => ?_) (fun c_5 => ?_)
    · have h := o_pos h c_5
      exact g_vret C hr dX1_orderByBest_84 h
    · have h := o_neg h c_5
      refine g_iload_n C dX1_orderByBest_21 rfl 1 rfl 22 rfl ?_
      refine g_aload_n C dX1_orderByBest_22 rfl 0 rfl 23 rfl ?_
      refine wgX1_144_58 C dX1_orderByBest_23 26 rfl ?_
      obtain ⟨j39, ej39, h⟩ := o_lt h
      have hj39 : ∀ (x1_6 : Int32) (x2_7 : Int32) (x3_8 : Int32) (σ_9 : ST), j39 x1_6 x2_7 x3_8 σ_9 = some res → G p l e (rmL 3) s m args below meth c (MQ below (Qv D (tyz cI cJ cB cZ) (wX ad cI cJ cB cZ) A res) args s 0 0 A) D (wX ad cI cJ cB cZ) A 4 σ_9 39 [(0, .ref (ad 58)), (1, .int x1_6), (2, .int x2_7), (3, .int x3_8)] [] := by
        intro x1_6 x2_7 x3_8 σ_9 h
        rw [ej39] at h
        refine g_aload_n C dX1_orderByBest_39 rfl 0 rfl 40 rfl ?_
        refine wgX1_38_58 C dX1_orderByBest_40 43 rfl ?_
        refine wgX1_58_52 C dX1_orderByBest_43 46 rfl ?_
        refine g_iload_n C dX1_orderByBest_46 rfl 3 rfl 47 rfl ?_
        refine g_iload_n C dX1_orderByBest_47 rfl 2 rfl 48 rfl ?_
        obtain ⟨c_10, h⟩ := o_chk h
        obtain ⟨σ_11, eσ_11, h⟩ := o_lt h
        refine wtX_54 C eσ_11 c_10 dX1_orderByBest_48 49 rfl ?_
        refine g_aload_n C dX1_orderByBest_49 rfl 0 rfl 50 rfl ?_
        refine g_iload_n C dX1_orderByBest_50 rfl 2 rfl 51 rfl ?_
        refine g_iconst C (v := 1) dX1_orderByBest_51 (by decide) 52 rfl ?_
        refine g_iadd C dX1_orderByBest_52 53 rfl ?_
        obtain ⟨q_12, hq_12, h⟩ := o_bind h
        refine wcX1_216_X_58 C (kX1_nextIdle hq_12) (by decide) (Nat.le_of_ble_eq_true rfl) dX1_orderByBest_53 56 rfl ?_
        obtain ⟨x2_13, ex2_13, h⟩ := o_lt h
        refine g_istore_n C (lv' := [(2, .int x2_13), (0, .ref (ad 58)), (1, .int x1_6), (3, .int x3_8)]) ex2_13 dX1_orderByBest_56 rfl (by decide) rfl 57 rfl ?_
        refine g_goto C 78 dX1_orderByBest_57 (by decide) ?_
        obtain ⟨x3_14, ex3_14, h⟩ := o_lt h
        refine g_iinc C (lv' := [(3, .int x3_14), (2, .int x2_13), (0, .ref (ad 58)), (1, .int x1_6)]) ex3_14 dX1_orderByBest_78 3 rfl (by decide) (by decide) rfl 81 rfl ?_
        refine g_goto C 10 dX1_orderByBest_81 (by decide) ?_
        exact g_sub C [2, 3, 1, 0] rfl (ih x1_6 x2_13 x3_14 q_12.2 h)
      refine g_icmp_ge C 39 dX1_orderByBest_26 (by decide) 29 rfl (fun c_15 => ?_) (fun c_15 => ?_)
      · have h := o_pos h c_15
        exact g_sub C [0, 1, 2, 3] rfl (hj39 x1 x2 x3 σ h)
      · have h := o_neg h c_15
        refine g_iload_n C dX1_orderByBest_29 rfl 2 rfl 30 rfl ?_
        refine g_aload_n C dX1_orderByBest_30 rfl 0 rfl 31 rfl ?_
        refine wgX1_27_58 C dX1_orderByBest_31 34 rfl ?_
        refine g_iload_n C dX1_orderByBest_34 rfl 1 rfl 35 rfl ?_
        obtain ⟨c_16, h⟩ := o_chk h
        refine wlX_64 C c_16 dX1_orderByBest_35 36 rfl ?_
        refine g_icmp_ge C 60 dX1_orderByBest_36 (by decide) 39 rfl (fun c_17 => ?_) (fun c_17 => ?_)
        · have h := o_pos h c_17
          refine g_aload_n C dX1_orderByBest_60 rfl 0 rfl 61 rfl ?_
          refine wgX1_38_58 C dX1_orderByBest_61 64 rfl ?_
          refine wgX1_58_52 C dX1_orderByBest_64 67 rfl ?_
          refine g_iload_n C dX1_orderByBest_67 rfl 3 rfl 68 rfl ?_
          refine g_aload_n C dX1_orderByBest_68 rfl 0 rfl 69 rfl ?_
          refine wgX1_27_58 C dX1_orderByBest_69 72 rfl ?_
          refine g_iload_n C dX1_orderByBest_72 rfl 1 rfl 73 rfl ?_
          obtain ⟨c_18, h⟩ := o_chk h
          refine wlX_64 C c_18 dX1_orderByBest_73 74 rfl ?_
          obtain ⟨c_19, h⟩ := o_chk h
          obtain ⟨σ_20, eσ_20, h⟩ := o_lt h
          refine wtX_54 C eσ_20 c_19 dX1_orderByBest_74 75 rfl ?_
          obtain ⟨x1_21, ex1_21, h⟩ := o_lt h
          refine g_iinc C (lv' := [(1, .int x1_21), (0, .ref (ad 58)), (2, .int x2), (3, .int x3)]) ex1_21 dX1_orderByBest_75 1 rfl (by decide) (by decide) rfl 78 rfl ?_
          obtain ⟨x3_22, ex3_22, h⟩ := o_lt h
          refine g_iinc C (lv' := [(3, .int x3_22), (1, .int x1_21), (0, .ref (ad 58)), (2, .int x2)]) ex3_22 dX1_orderByBest_78 3 rfl (by decide) (by decide) rfl 81 rfl ?_
          refine g_goto C 10 dX1_orderByBest_81 (by decide) ?_
          exact g_sub C [2, 1, 3, 0] rfl (ih x1_21 x2 x3_22 σ_20 h)
        · have h := o_neg h c_17
          exact g_sub C [0, 1, 2, 3] rfl (hj39 x1 x2 x3 σ h)
set_option maxHeartbeats 4000000 in
set_option maxRecDepth 100000 in
theorem kX1_orderByBest {l : Launch} {D : va_G} {ad : Nat → Nat} {cI cJ cB cZ : ClassId}  {n : Nat}  {σ : ST} {res : ST} (h : fX1_orderByBest n σ = some res) : CMv l D (tyz cI cJ cB cZ) (wX ad cI cJ cB cZ) 3 yX1_orderByBest cX1_orderByBest 4 none [.ref (ad 58)] σ res := by
  refine cmv_body (own := RX1) (lv := [(0, .ref (ad 58))]) (by decide) rfl (wX_addr _ _ _ _ _) (Nat.le_of_ble_eq_true rfl) rfl (fun p e s m args below meth c A C hr => ?_)
  unfold fX1_orderByBest at h
  refine g_iconst C (v := 0) dX1_orderByBest_0 (by decide) 1 rfl ?_
  obtain ⟨x1_1, ex1_1, h⟩ := o_lt h
  refine g_istore_n C (lv' := [(1, .int x1_1), (0, .ref (ad 58))]) ex1_1 dX1_orderByBest_1 rfl (by decide) rfl 2 rfl ?_
  refine g_aload_n C dX1_orderByBest_2 rfl 1 rfl 3 rfl ?_
  refine g_iconst C (v := 0) dX1_orderByBest_3 (by decide) 4 rfl ?_
  obtain ⟨q_2, hq_2, h⟩ := o_bind h
  refine wcX1_216_X_58 C (kX1_nextIdle hq_2) (by decide) (Nat.le_of_ble_eq_true rfl) dX1_orderByBest_4 7 rfl ?_
  obtain ⟨x2_3, ex2_3, h⟩ := o_lt h
  refine g_istore_n C (lv' := [(2, .int x2_3), (1, .int x1_1), (0, .ref (ad 58))]) ex2_3 dX1_orderByBest_7 rfl (by decide) rfl 8 rfl ?_
  refine g_iconst C (v := 0) dX1_orderByBest_8 (by decide) 9 rfl ?_
  obtain ⟨x3_4, ex3_4, h⟩ := o_lt h
  refine g_istore_n C (lv' := [(3, .int x3_4), (2, .int x2_3), (1, .int x1_1), (0, .ref (ad 58))]) ex3_4 dX1_orderByBest_9 rfl (by decide) rfl 10 rfl ?_
  exact g_sub C [3, 2, 1, 0] rfl (kX1_orderByBest_L10 C hr  n x1_1 x2_3 x3_4 q_2.2 h)
end WK
