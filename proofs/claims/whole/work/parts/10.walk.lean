/-! X6_addWord void addWord(int); -/
def fX6_addWord_L3  : Nat → Int32 → Int32 → ST → Option (ST)
  | 0, _, _, _ => none
  | n + 1, x1, x2, σ => (if x2 < 0 then (some σ) else (if ((2000 : Int32)) ≤ (gI σ 0) then (lt (x2 + (-8)) (fun x2_4 => (fX6_addWord_L3 n x1 x2_4 σ))) else (if ix (gI σ 0) 2000 then (lt (stA σ 2 (gI σ 0) (nb ((x1 >>> (x2 &&& 31)).toInt8.toInt32))) (fun σ_6 => (lt (sI σ_6 0 ((gI σ_6 0) + ((1 : Int32)))) (fun σ_7 => (lt (x2 + (-8)) (fun x2_8 => (fX6_addWord_L3 n x1 x2_8 σ_7))))))) else none)))
def fX6_addWord (n : Nat) (x1 : Int32) (σ : ST) : Option (ST) :=
  (lt ((24 : Int32)) (fun x2_1 => (fX6_addWord_L3 n x1 x2_1 σ)))
section WK
variable {p : Program} {l : Launch} {e : Env} {R : Room} {s : State} {m : MethodId} {args : Array Value} {below : List Frame} {meth : Method} {c : Code} {Q : State → Prop}
variable {D : va_G} {ad : Nat → Nat} {cI cJ cB cZ : ClassId} {A : Nat → Prop} {cc : ByteArray} {nL lev : Nat}
variable {σ : ST} {pc : Nat} {lv : List (Nat × Value)} {st : List Value}
set_option maxHeartbeats 4000000 in
set_option maxRecDepth 100000 in
theorem kX6_addWord_L3 (C : Ctx p l e (rmL 0) s m args below meth c D (tyz cI cJ cB cZ) (wX ad cI cJ cB cZ) A cX6_addWord 3 0 RX6) (hr : meth.sig.returnType = none) {res : ST}   : ∀ (n : Nat) (x1 : Int32) (x2 : Int32) (σ : ST), fX6_addWord_L3 n x1 x2 σ = some res → G p l e (rmL 0) s m args below meth c (MQ below (Qv D (tyz cI cJ cB cZ) (wX ad cI cJ cB cZ) A res) args s 0 0 A) D (wX ad cI cJ cB cZ) A 3 σ 3 [(0, .ref (ad 1)), (1, .int x1), (2, .int x2)] [] := by
  intro n
  induction n with
  | zero => intro x1 x2 σ h; have h : none = some res := h; cases h
  | succ n ih =>
    intro x1 x2 σ h
    rw [fX6_addWord_L3] at h
    refine g_iload_n C dX6_addWord_3 rfl 2 rfl 4 rfl ?_
    refine g_if_lt C 46 dX6_addWord_4 (by decide) (fun c_2 => ?_) 7 rfl (fun c_2 => ?_)
    · have h := o_pos h c_2
      exact g_vret C hr dX6_addWord_46 h
    · have h := o_neg h c_2
      refine g_aload_n C dX6_addWord_7 rfl 0 rfl 8 rfl ?_
      refine wgX6_15_1 C dX6_addWord_8 11 rfl ?_
      refine g_sipush C (v := 2000) dX6_addWord_11 (by decide) 14 rfl ?_
      refine g_icmp_ge C 40 dX6_addWord_14 (by decide) (fun c_3 => ?_) 17 rfl (fun c_3 => ?_)
      · have h := o_pos h c_3
        obtain ⟨x2_4, ex2_4, h⟩ := o_lt h
        refine g_iinc C (lv' := [(2, .int x2_4), (0, .ref (ad 1)), (1, .int x1)]) ex2_4 dX6_addWord_40 2 rfl (by decide) (by decide) rfl 43 rfl ?_
        refine g_goto C 3 dX6_addWord_43 (by decide) ?_
        exact g_sub C [1, 2, 0] rfl (ih x1 x2_4 σ h)
      · have h := o_neg h c_3
        refine g_aload_n C dX6_addWord_17 rfl 0 rfl 18 rfl ?_
        refine wgX6_9_1 C dX6_addWord_18 21 rfl ?_
        refine g_aload_n C dX6_addWord_21 rfl 0 rfl 22 rfl ?_
        refine wgX6_15_1 C dX6_addWord_22 25 rfl ?_
        refine g_iload_n C dX6_addWord_25 rfl 1 rfl 26 rfl ?_
        refine g_iload_n C dX6_addWord_26 rfl 2 rfl 27 rfl ?_
        refine g_ishr C dX6_addWord_27 28 rfl ?_
        refine g_i2b C dX6_addWord_28 29 rfl ?_
        obtain ⟨c_5, h⟩ := o_chk h
        obtain ⟨σ_6, eσ_6, h⟩ := o_lt h
        refine wtX_2 C eσ_6 c_5 dX6_addWord_29 30 rfl ?_
        refine g_aload_n C dX6_addWord_30 rfl 0 rfl 31 rfl ?_
        refine g_dup C dX6_addWord_31 rfl 32 rfl ?_
        refine wgX6_15_1 C dX6_addWord_32 35 rfl ?_
        refine g_iconst C (v := 1) dX6_addWord_35 (by decide) 36 rfl ?_
        refine g_iadd C dX6_addWord_36 37 rfl ?_
        obtain ⟨σ_7, eσ_7, h⟩ := o_lt h
        refine wpX6_15_1 C eσ_7 dX6_addWord_37 40 rfl ?_
        obtain ⟨x2_8, ex2_8, h⟩ := o_lt h
        refine g_iinc C (lv' := [(2, .int x2_8), (0, .ref (ad 1)), (1, .int x1)]) ex2_8 dX6_addWord_40 2 rfl (by decide) (by decide) rfl 43 rfl ?_
        refine g_goto C 3 dX6_addWord_43 (by decide) ?_
        exact g_sub C [1, 2, 0] rfl (ih x1 x2_8 σ_7 h)
set_option maxHeartbeats 4000000 in
set_option maxRecDepth 100000 in
theorem kX6_addWord {l : Launch} {D : va_G} {ad : Nat → Nat} {cI cJ cB cZ : ClassId}  {n : Nat} {x1 : Int32} {σ : ST} {res : ST} (h : fX6_addWord n x1 σ = some res) : CMv l D (tyz cI cJ cB cZ) (wX ad cI cJ cB cZ) 0 yX6_addWord cX6_addWord 3 none [.ref (ad 1), .int x1] σ res := by
  refine cmv_body (own := RX6) (lv := [(0, .ref (ad 1)), (1, .int x1)]) (by decide) rfl (wX_addr _ _ _ _ _) (Nat.le_of_ble_eq_true rfl) rfl (fun p e s m args below meth c A C hr => ?_)
  unfold fX6_addWord at h
  refine g_bipush C (v := 24) dX6_addWord_0 (by decide) 2 rfl ?_
  obtain ⟨x2_1, ex2_1, h⟩ := o_lt h
  refine g_istore_n C (lv' := [(2, .int x2_1), (0, .ref (ad 1)), (1, .int x1)]) ex2_1 dX6_addWord_2 rfl (by decide) rfl 3 rfl ?_
  exact g_sub C [1, 2, 0] rfl (kX6_addWord_L3 C hr  n x1 x2_1 σ h)
end WK
/-! X10_feed public int feed(int, int, int, int, int); -/
def fX10_feed (n : Nat) (x1 : Int32) (x2 : Int32) (x3 : Int32) (x4 : Int32) (x5 : Int32) (σ : ST) : Option (Int32 × ST) :=
  (if (gI σ 0) ≤ ((1980 : Int32)) then (Option.bind (fX6_addWord n x1 σ) (fun q_2 => (Option.bind (fX6_addWord n x2 q_2) (fun q_3 => (Option.bind (fX6_addWord n x3 q_3) (fun q_4 => (Option.bind (fX6_addWord n x4 q_4) (fun q_5 => (Option.bind (fX6_addWord n x5 q_5) (fun q_6 => (some (gI q_6 0, q_6)))))))))))) else (some ((-1 : Int32), σ)))
section WK
variable {p : Program} {l : Launch} {e : Env} {R : Room} {s : State} {m : MethodId} {args : Array Value} {below : List Frame} {meth : Method} {c : Code} {Q : State → Prop}
variable {D : va_G} {ad : Nat → Nat} {cI cJ cB cZ : ClassId} {A : Nat → Prop} {cc : ByteArray} {nL lev : Nat}
variable {σ : ST} {pc : Nat} {lv : List (Nat × Value)} {st : List Value}
set_option maxHeartbeats 4000000 in
set_option maxRecDepth 100000 in
theorem kX10_feed {l : Launch} {D : va_G} {ad : Nat → Nat} {cI cJ cB cZ : ClassId}  {n : Nat} {x1 : Int32} {x2 : Int32} {x3 : Int32} {x4 : Int32} {x5 : Int32} {σ : ST} {res : Int32 × ST} (h : fX10_feed n x1 x2 x3 x4 x5 σ = some res) : CMi l D (tyz cI cJ cB cZ) (wX ad cI cJ cB cZ) 1 yX10_feed cX10_feed 6 (some .int) [.ref (ad 0), .int x1, .int x2, .int x3, .int x4, .int x5] σ res := by
  refine cmi_body (own := RX10) (lv := [(0, .ref (ad 0)), (1, .int x1), (2, .int x2), (3, .int x3), (4, .int x4), (5, .int x5)]) (by decide) rfl (wX_addr _ _ _ _ _) (Nat.le_of_ble_eq_true rfl) rfl (fun p e s m args below meth c A C hr => ?_)
  unfold fX10_feed at h
  refine g_aload_n C dX10_feed_0 rfl 0 rfl 1 rfl ?_
  refine wgX10_10_0 C dX10_feed_1 4 rfl ?_
  refine wgX10_80_1 C dX10_feed_4 7 rfl ?_
  refine g_sipush C (v := 1980) dX10_feed_7 (by decide) 10 rfl ?_
  refine g_icmp_le C 15 dX10_feed_10 (by decide) (fun c_1 => ?_) 13 rfl (fun c_1 => ?_)
  · have h := o_pos h c_1
    refine g_aload_n C dX10_feed_15 rfl 0 rfl 16 rfl ?_
    refine wgX10_10_0 C dX10_feed_16 19 rfl ?_
    refine g_iload_n C dX10_feed_19 rfl 1 rfl 20 rfl ?_
    obtain ⟨q_2, hq_2, h⟩ := o_bind h
    refine wcX10_84_X_1 C (kX6_addWord hq_2) (by decide) (Nat.le_of_ble_eq_true rfl) dX10_feed_20 23 rfl ?_
    refine g_aload_n C dX10_feed_23 rfl 0 rfl 24 rfl ?_
    refine wgX10_10_0 C dX10_feed_24 27 rfl ?_
    refine g_iload_n C dX10_feed_27 rfl 2 rfl 28 rfl ?_
    obtain ⟨q_3, hq_3, h⟩ := o_bind h
    refine wcX10_84_X_1 C (kX6_addWord hq_3) (by decide) (Nat.le_of_ble_eq_true rfl) dX10_feed_28 31 rfl ?_
    refine g_aload_n C dX10_feed_31 rfl 0 rfl 32 rfl ?_
    refine wgX10_10_0 C dX10_feed_32 35 rfl ?_
    refine g_iload_n C dX10_feed_35 rfl 3 rfl 36 rfl ?_
    obtain ⟨q_4, hq_4, h⟩ := o_bind h
    refine wcX10_84_X_1 C (kX6_addWord hq_4) (by decide) (Nat.le_of_ble_eq_true rfl) dX10_feed_36 39 rfl ?_
    refine g_aload_n C dX10_feed_39 rfl 0 rfl 40 rfl ?_
    refine wgX10_10_0 C dX10_feed_40 43 rfl ?_
    refine g_iload C dX10_feed_43 4 rfl 45 rfl ?_
    obtain ⟨q_5, hq_5, h⟩ := o_bind h
    refine wcX10_84_X_1 C (kX6_addWord hq_5) (by decide) (Nat.le_of_ble_eq_true rfl) dX10_feed_45 48 rfl ?_
    refine g_aload_n C dX10_feed_48 rfl 0 rfl 49 rfl ?_
    refine wgX10_10_0 C dX10_feed_49 52 rfl ?_
    refine g_iload C dX10_feed_52 5 rfl 54 rfl ?_
    obtain ⟨q_6, hq_6, h⟩ := o_bind h
    refine wcX10_84_X_1 C (kX6_addWord hq_6) (by decide) (Nat.le_of_ble_eq_true rfl) dX10_feed_54 57 rfl ?_
    refine g_aload_n C dX10_feed_57 rfl 0 rfl 58 rfl ?_
    refine wgX10_10_0 C dX10_feed_58 61 rfl ?_
    refine wgX10_80_1 C dX10_feed_61 64 rfl ?_
    exact g_iret C hr dX10_feed_64 h
  · have h := o_neg h c_1
    refine g_iconst C (v := -1) dX10_feed_13 (by decide) 14 rfl ?_
    exact g_iret C hr dX10_feed_14 h
end WK
/-! X10_back public int back(int); -/
def fX10_back (x1 : Int32) (σ : ST) : Option (Int32 × ST) :=
  (if x1 < 0 then (some ((-1 : Int32), σ)) else (if x1 ≤ (gI σ 0) then (lt (sI σ 0 ((gI σ 0) - x1)) (fun σ_3 => (some (gI σ_3 0, σ_3)))) else (some ((-1 : Int32), σ))))
section WK
variable {p : Program} {l : Launch} {e : Env} {R : Room} {s : State} {m : MethodId} {args : Array Value} {below : List Frame} {meth : Method} {c : Code} {Q : State → Prop}
variable {D : va_G} {ad : Nat → Nat} {cI cJ cB cZ : ClassId} {A : Nat → Prop} {cc : ByteArray} {nL lev : Nat}
variable {σ : ST} {pc : Nat} {lv : List (Nat × Value)} {st : List Value}
set_option maxHeartbeats 4000000 in
set_option maxRecDepth 100000 in
theorem kX10_back {l : Launch} {D : va_G} {ad : Nat → Nat} {cI cJ cB cZ : ClassId}  {x1 : Int32} {σ : ST} {res : Int32 × ST} (h : fX10_back x1 σ = some res) : CMi l D (tyz cI cJ cB cZ) (wX ad cI cJ cB cZ) 0 yX10_back cX10_back 2 (some .int) [.ref (ad 0), .int x1] σ res := by
  refine cmi_body (own := RX10) (lv := [(0, .ref (ad 0)), (1, .int x1)]) (by decide) rfl (wX_addr _ _ _ _ _) (Nat.le_of_ble_eq_true rfl) rfl (fun p e s m args below meth c A C hr => ?_)
  unfold fX10_back at h
  refine g_iload_n C dX10_back_0 rfl 1 rfl 1 rfl ?_
  refine g_if_lt C 15 dX10_back_1 (by decide) (fun c_1 => ?_) 4 rfl (fun c_1 => ?_)
  · have h := o_pos h c_1
    refine g_iconst C (v := -1) dX10_back_15 (by decide) 16 rfl ?_
    exact g_iret C hr dX10_back_16 h
  · have h := o_neg h c_1
    refine g_iload_n C dX10_back_4 rfl 1 rfl 5 rfl ?_
    refine g_aload_n C dX10_back_5 rfl 0 rfl 6 rfl ?_
    refine wgX10_10_0 C dX10_back_6 9 rfl ?_
    refine wgX10_80_1 C dX10_back_9 12 rfl ?_
    refine g_icmp_le C 17 dX10_back_12 (by decide) (fun c_2 => ?_) 15 rfl (fun c_2 => ?_)
    · have h := o_pos h c_2
      refine g_aload_n C dX10_back_17 rfl 0 rfl 18 rfl ?_
      refine wgX10_10_0 C dX10_back_18 21 rfl ?_
      refine g_dup C dX10_back_21 rfl 22 rfl ?_
      refine wgX10_80_1 C dX10_back_22 25 rfl ?_
      refine g_iload_n C dX10_back_25 rfl 1 rfl 26 rfl ?_
      refine g_isub C dX10_back_26 27 rfl ?_
      obtain ⟨σ_3, eσ_3, h⟩ := o_lt h
      refine wpX10_80_1 C eσ_3 dX10_back_27 30 rfl ?_
      refine g_aload_n C dX10_back_30 rfl 0 rfl 31 rfl ?_
      refine wgX10_10_0 C dX10_back_31 34 rfl ?_
      refine wgX10_80_1 C dX10_back_34 37 rfl ?_
      exact g_iret C hr dX10_back_37 h
    · have h := o_neg h c_2
      refine g_iconst C (v := -1) dX10_back_15 (by decide) 16 rfl ?_
      exact g_iret C hr dX10_back_16 h
end WK
