/-! X6_addWord void addWord(int); -/
def fX6_addWord_L3  : Nat → Int32 → Int32 → ST → Option (ST)
  | 0, _, _, _ => none
  | n + 1, x1, x2, σ => (if x2 < 0 then (some σ) else (if ((2000 : Int32)) ≤ (gI σ 0) then (lt (x2 + (-8)) (fun x2_4 => (fX6_addWord_L3 n x1 x2_4 σ))) else (if ix (gI σ 0) 2000 then (lt (stA σ 2 (gI σ 0) (nb ((x1 >>> (x2 &&& 31)).toInt8.toInt32))) (fun σ_6 => (lt (sI σ_6 0 ((gI σ_6 0) + ((1 : Int32)))) (fun σ_7 => (lt (x2 + (-8)) (fun x2_8 => (fX6_addWord_L3 n x1 x2_8 σ_7))))))) else none)))
def fX6_addWord (n : Nat) (x1 : Int32) (σ : ST) : Option (ST) :=
  (lt ((24 : Int32)) (fun x2_1 => (fX6_addWord_L3 n x1 x2_1 σ)))
section WK
variable {p : Program} {l : Launch} {e : Env} {R : Room} {s : State} {m : MethodId} {args : Array Value} {below : List Frame} {meth : Method} {c : Code} {Q : State → Prop}
variable {D : va_G} {ad : Nat → Nat} {cI cJ cB cZ : ClassId} {A : Nat → Prop} {cc : ByteArray} {nL lev : Nat}
variable {σ : ST} {pc : Nat} {lv : List (Nat × Value)} {st : List Value}
set_option maxHeartbeats 4000000 in
set_option maxRecDepth 100000 in
theorem kX6_addWord_L3 (C : Ctx p l e (rmL 0) s m args below meth c D (tyz cI cJ cB cZ) (wX ad cI cJ cB cZ) A cX6_addWord 3 0 RX6) (hr : meth.sig.returnType = none) {res : ST}   : ∀ (n : Nat) (x1 : Int32) (x2 : Int32) (σ : ST), fX6_addWord_L3 n x1 x2 σ = some res → G p l e (rmL 0) s m args below meth c (MQ below (Qv D (tyz cI cJ cB cZ) (wX ad cI cJ cB cZ) A res) args s 0 0 A) D (wX ad cI cJ cB cZ) A 3 σ 3 [(0, .ref (ad 1)), (1, .int x1), (2, .int x2)] [] := by
  intro n
  induction n with
  | zero => intro x1 x2 σ h; have h : none = some res := h; cases h
  | succ n ih =>
    intro x1 x2 σ h
    rw [fX6_addWord_L3] at h
    refine g_iload_n C dX6_addWord_3 rfl 2 rfl 4 rfl ?_
    refine g_if_lt C 46 dX6_addWord_4 (by decide) 7 rfl (fun c_2 => ?_) (fun c_2 => ?_)
    · have h := o_pos h c_2
      exact g_vret C hr dX6_addWord_46 h
    · have h := o_neg h c_2
      refine g_aload_n C dX6_addWord_7 rfl 0 rfl 8 rfl ?_
      refine wgX6_15_1 C dX6_addWord_8 11 rfl ?_
      refine g_sipush C (v := 2000) dX6_addWord_11 (by decide) 14 rfl ?_
      refine g_icmp_ge C 40 dX6_addWord_14 (by decide) 17 rfl (fun c_3 => ?_) (fun c_3 => ?_)
      · have h := o_pos h c_3
        obtain ⟨x2_4, ex2_4, h⟩ := o_lt h
        refine g_iinc C (lv' := [(2, .int x2_4), (0, .ref (ad 1)), (1, .int x1)]) ex2_4 dX6_addWord_40 2 rfl (by decide) (by decide) rfl 43 rfl ?_
        refine g_goto C 3 dX6_addWord_43 (by decide) ?_
        exact g_sub C [1, 2, 0] rfl (ih x1 x2_4 σ h)
      · have h := o_neg h c_3
        refine g_aload_n C dX6_addWord_17 rfl 0 rfl 18 rfl ?_
        refine wgX6_9_1 C dX6_addWord_18 21 rfl ?_
        refine g_aload_n C dX6_addWord_21 rfl 0 rfl 22 rfl ?_
        refine wgX6_15_1 C dX6_addWord_22 25 rfl ?_
        refine g_iload_n C dX6_addWord_25 rfl 1 rfl 26 rfl ?_
        refine g_iload_n C dX6_addWord_26 rfl 2 rfl 27 rfl ?_
        refine g_ishr C dX6_addWord_27 28 rfl ?_
        refine g_i2b C dX6_addWord_28 29 rfl ?_
        obtain ⟨c_5, h⟩ := o_chk h
        obtain ⟨σ_6, eσ_6, h⟩ := o_lt h
        refine wtX_2 C eσ_6 c_5 dX6_addWord_29 30 rfl ?_
        refine g_aload_n C dX6_addWord_30 rfl 0 rfl 31 rfl ?_
        refine g_dup C dX6_addWord_31 rfl 32 rfl ?_
        refine wgX6_15_1 C dX6_addWord_32 35 rfl ?_
        refine g_iconst C (v := 1) dX6_addWord_35 (by decide) 36 rfl ?_
        refine g_iadd C dX6_addWord_36 37 rfl ?_
        obtain ⟨σ_7, eσ_7, h⟩ := o_lt h
        refine wpX6_15_1 C eσ_7 dX6_addWord_37 40 rfl ?_
        obtain ⟨x2_8, ex2_8, h⟩ := o_lt h
        refine g_iinc C (lv' := [(2, .int x2_8), (0, .ref (ad 1)), (1, .int x1)]) ex2_8 dX6_addWord_40 2 rfl (by decide) (by decide) rfl 43 rfl ?_
        refine g_goto C 3 dX6_addWord_43 (by decide) ?_
        exact g_sub C [1, 2, 0] rfl (ih x1 x2_8 σ_7 h)
set_option maxHeartbeats 4000000 in
set_option maxRecDepth 100000 in
theorem kX6_addWord {l : Launch} {D : va_G} {ad : Nat → Nat} {cI cJ cB cZ : ClassId}  {n : Nat} {x1 : Int32} {σ : ST} {res : ST} (h : fX6_addWord n x1 σ = some res) : CMv l D (tyz cI cJ cB cZ) (wX ad cI cJ cB cZ) 0 yX6_addWord cX6_addWord 3 none [.ref (ad 1), .int x1] σ res := by
  refine cmv_body (own := RX6) (lv := [(0, .ref (ad 1)), (1, .int x1)]) (by decide) rfl (wX_addr _ _ _ _ _) (Nat.le_of_ble_eq_true rfl) rfl (fun p e s m args below meth c A C hr => ?_)
  unfold fX6_addWord at h
  refine g_bipush C (v := 24) dX6_addWord_0 (by decide) 2 rfl ?_
  obtain ⟨x2_1, ex2_1, h⟩ := o_lt h
  refine g_istore_n C (lv' := [(2, .int x2_1), (0, .ref (ad 1)), (1, .int x1)]) ex2_1 dX6_addWord_2 rfl (by decide) rfl 3 rfl ?_
  exact g_sub C [1, 2, 0] rfl (kX6_addWord_L3 C hr  n x1 x2_1 σ h)
end WK
/-! X10_feed public int feed(int, int, int, int, int); -/
def fX10_feed (n : Nat) (x1 : Int32) (x2 : Int32) (x3 : Int32) (x4 : Int32) (x5 : Int32) (σ : ST) : Option (Int32 × ST) :=
  (if (gI σ 0) ≤ ((1980 : Int32)) then (Option.bind (fX6_addWord n x1 σ) (fun q_2 => (Option.bind (fX6_addWord n x2 q_2) (fun q_3 => (Option.bind (fX6_addWord n x3 q_3) (fun q_4 => (Option.bind (fX6_addWord n x4 q_4) (fun q_5 => (Option.bind (fX6_addWord n x5 q_5) (fun q_6 => (some (gI q_6 0, q_6)))))))))))) else (some ((-1 : Int32), σ)))
section WK
variable {p : Program} {l : Launch} {e : Env} {R : Room} {s : State} {m : MethodId} {args : Array Value} {below : List Frame} {meth : Method} {c : Code} {Q : State → Prop}
variable {D : va_G} {ad : Nat → Nat} {cI cJ cB cZ : ClassId} {A : Nat → Prop} {cc : ByteArray} {nL lev : Nat}
variable {σ : ST} {pc : Nat} {lv : List (Nat × Value)} {st : List Value}
set_option maxHeartbeats 4000000 in
set_option maxRecDepth 100000 in
theorem kX10_feed {l : Launch} {D : va_G} {ad : Nat → Nat} {cI cJ cB cZ : ClassId}  {n : Nat} {x1 : Int32} {x2 : Int32} {x3 : Int32} {x4 : Int32} {x5 : Int32} {σ : ST} {res : Int32 × ST} (h : fX10_feed n x1 x2 x3 x4 x5 σ = some res) : CMi l D (tyz cI cJ cB cZ) (wX ad cI cJ cB cZ) 1 yX10_feed cX10_feed 6 (some .int) [.ref (ad 0), .int x1, .int x2, .int x3, .int x4, .int x5] σ res := by
  refine cmi_body (own := RX10) (lv := [(0, .ref (ad 0)), (1, .int x1), (2, .int x2), (3, .int x3), (4, .int x4), (5, .int x5)]) (by decide) rfl (wX_addr _ _ _ _ _) (Nat.le_of_ble_eq_true rfl) rfl (fun p e s m args below meth c A C hr => ?_)
  unfold fX10_feed at h
  refine g_aload_n C dX10_feed_0 rfl 0 rfl 1 rfl ?_
  refine wgX10_12_0 C dX10_feed_1 4 rfl ?_
  refine wgX10_80_1 C dX10_feed_4 7 rfl ?_
  refine g_sipush C (v := 1980) dX10_feed_7 (by decide) 10 rfl ?_
  refine g_icmp_le C 15 dX10_feed_10 (by decide) 13 rfl (fun c_1 => ?_) (fun c_1 => ?_)
  · have h := o_pos h c_1
    refine g_aload_n C dX10_feed_15 rfl 0 rfl 16 rfl ?_
    refine wgX10_12_0 C dX10_feed_16 19 rfl ?_
    refine g_iload_n C dX10_feed_19 rfl 1 rfl 20 rfl ?_
    obtain ⟨q_2, hq_2, h⟩ := o_bind h
    refine wcX10_84_X_1 C (kX6_addWord hq_2) (by decide) (Nat.le_of_ble_eq_true rfl) dX10_feed_20 23 rfl ?_
    refine g_aload_n C dX10_feed_23 rfl 0 rfl 24 rfl ?_
    refine wgX10_12_0 C dX10_feed_24 27 rfl ?_
    refine g_iload_n C dX10_feed_27 rfl 2 rfl 28 rfl ?_
    obtain ⟨q_3, hq_3, h⟩ := o_bind h
    refine wcX10_84_X_1 C (kX6_addWord hq_3) (by decide) (Nat.le_of_ble_eq_true rfl) dX10_feed_28 31 rfl ?_
    refine g_aload_n C dX10_feed_31 rfl 0 rfl 32 rfl ?_
    refine wgX10_12_0 C dX10_feed_32 35 rfl ?_
    refine g_iload_n C dX10_feed_35 rfl 3 rfl 36 rfl ?_
    obtain ⟨q_4, hq_4, h⟩ := o_bind h
    refine wcX10_84_X_1 C (kX6_addWord hq_4) (by decide) (Nat.le_of_ble_eq_true rfl) dX10_feed_36 39 rfl ?_
    refine g_aload_n C dX10_feed_39 rfl 0 rfl 40 rfl ?_
    refine wgX10_12_0 C dX10_feed_40 43 rfl ?_
    refine g_iload C dX10_feed_43 4 rfl 45 rfl ?_
    obtain ⟨q_5, hq_5, h⟩ := o_bind h
    refine wcX10_84_X_1 C (kX6_addWord hq_5) (by decide) (Nat.le_of_ble_eq_true rfl) dX10_feed_45 48 rfl ?_
    refine g_aload_n C dX10_feed_48 rfl 0 rfl 49 rfl ?_
    refine wgX10_12_0 C dX10_feed_49 52 rfl ?_
    refine g_iload C dX10_feed_52 5 rfl 54 rfl ?_
    obtain ⟨q_6, hq_6, h⟩ := o_bind h
    refine wcX10_84_X_1 C (kX6_addWord hq_6) (by decide) (Nat.le_of_ble_eq_true rfl) dX10_feed_54 57 rfl ?_
    refine g_aload_n C dX10_feed_57 rfl 0 rfl 58 rfl ?_
    refine wgX10_12_0 C dX10_feed_58 61 rfl ?_
    refine wgX10_80_1 C dX10_feed_61 64 rfl ?_
    exact g_iret C hr dX10_feed_64 h
  · have h := o_neg h c_1
    refine g_iconst C (v := -1) dX10_feed_13 (by decide) 14 rfl ?_
    exact g_iret C hr dX10_feed_14 h
end WK
/-! X10_back public int back(int); -/
def fX10_back (x1 : Int32) (σ : ST) : Option (Int32 × ST) :=
  (if x1 < 0 then (some ((-1 : Int32), σ)) else (if x1 ≤ (gI σ 0) then (lt (sI σ 0 ((gI σ 0) - x1)) (fun σ_3 => (some (gI σ_3 0, σ_3)))) else (some ((-1 : Int32), σ))))
section WK
variable {p : Program} {l : Launch} {e : Env} {R : Room} {s : State} {m : MethodId} {args : Array Value} {below : List Frame} {meth : Method} {c : Code} {Q : State → Prop}
variable {D : va_G} {ad : Nat → Nat} {cI cJ cB cZ : ClassId} {A : Nat → Prop} {cc : ByteArray} {nL lev : Nat}
variable {σ : ST} {pc : Nat} {lv : List (Nat × Value)} {st : List Value}
set_option maxHeartbeats 4000000 in
set_option maxRecDepth 100000 in
theorem kX10_back {l : Launch} {D : va_G} {ad : Nat → Nat} {cI cJ cB cZ : ClassId}  {x1 : Int32} {σ : ST} {res : Int32 × ST} (h : fX10_back x1 σ = some res) : CMi l D (tyz cI cJ cB cZ) (wX ad cI cJ cB cZ) 0 yX10_back cX10_back 2 (some .int) [.ref (ad 0), .int x1] σ res := by
  refine cmi_body (own := RX10) (lv := [(0, .ref (ad 0)), (1, .int x1)]) (by decide) rfl (wX_addr _ _ _ _ _) (Nat.le_of_ble_eq_true rfl) rfl (fun p e s m args below meth c A C hr => ?_)
  unfold fX10_back at h
  refine g_iload_n C dX10_back_0 rfl 1 rfl 1 rfl ?_
  refine g_if_lt C 15 dX10_back_1 (by decide) 4 rfl (fun c_1 => ?_) (fun c_1 => ?_)
  · have h := o_pos h c_1
    refine g_iconst C (v := -1) dX10_back_15 (by decide) 16 rfl ?_
    exact g_iret C hr dX10_back_16 h
  · have h := o_neg h c_1
    refine g_iload_n C dX10_back_4 rfl 1 rfl 5 rfl ?_
    refine g_aload_n C dX10_back_5 rfl 0 rfl 6 rfl ?_
    refine wgX10_12_0 C dX10_back_6 9 rfl ?_
    refine wgX10_80_1 C dX10_back_9 12 rfl ?_
    refine g_icmp_le C 17 dX10_back_12 (by decide) 15 rfl (fun c_2 => ?_) (fun c_2 => ?_)
    · have h := o_pos h c_2
      refine g_aload_n C dX10_back_17 rfl 0 rfl 18 rfl ?_
      refine wgX10_12_0 C dX10_back_18 21 rfl ?_
      refine g_dup C dX10_back_21 rfl 22 rfl ?_
      refine wgX10_80_1 C dX10_back_22 25 rfl ?_
      refine g_iload_n C dX10_back_25 rfl 1 rfl 26 rfl ?_
      refine g_isub C dX10_back_26 27 rfl ?_
      obtain ⟨σ_3, eσ_3, h⟩ := o_lt h
      refine wpX10_80_1 C eσ_3 dX10_back_27 30 rfl ?_
      refine g_aload_n C dX10_back_30 rfl 0 rfl 31 rfl ?_
      refine wgX10_12_0 C dX10_back_31 34 rfl ?_
      refine wgX10_80_1 C dX10_back_34 37 rfl ?_
      exact g_iret C hr dX10_back_37 h
    · have h := o_neg h c_2
      refine g_iconst C (v := -1) dX10_back_15 (by decide) 16 rfl ?_
      exact g_iret C hr dX10_back_16 h
end WK
/-! X10_isBelow private static boolean isBelow(int, int); -/
def fX10_isBelow (x0 : Int32) (x1 : Int32) (σ : ST) : Option (Int32 × ST) :=
  (if x0 < 0 then (some ((0 : Int32), σ)) else (if x1 ≤ x0 then (some ((0 : Int32), σ)) else (some ((1 : Int32), σ))))
section WK
variable {p : Program} {l : Launch} {e : Env} {R : Room} {s : State} {m : MethodId} {args : Array Value} {below : List Frame} {meth : Method} {c : Code} {Q : State → Prop}
variable {D : va_G} {ad : Nat → Nat} {cI cJ cB cZ : ClassId} {A : Nat → Prop} {cc : ByteArray} {nL lev : Nat}
variable {σ : ST} {pc : Nat} {lv : List (Nat × Value)} {st : List Value}
set_option maxHeartbeats 4000000 in
set_option maxRecDepth 100000 in
theorem kX10_isBelow {l : Launch} {D : va_G} {ad : Nat → Nat} {cI cJ cB cZ : ClassId}  {x0 : Int32} {x1 : Int32} {σ : ST} {res : Int32 × ST} (h : fX10_isBelow x0 x1 σ = some res) : CMi l D (tyz cI cJ cB cZ) (wX ad cI cJ cB cZ) 0 yX10_isBelow cX10_isBelow 2 (some .boolean) [.int x0, .int x1] σ res := by
  refine cmi_body (own := RX10) (lv := [(0, .int x0), (1, .int x1)]) (by decide) rfl (wX_addr _ _ _ _ _) (Nat.le_of_ble_eq_true rfl) rfl (fun p e s m args below meth c A C hr => ?_)
  unfold fX10_isBelow at h
  refine g_iload_n C dX10_isBelow_0 rfl 0 rfl 1 rfl ?_
  refine g_if_lt C 13 dX10_isBelow_1 (by decide) 4 rfl (fun c_1 => ?_) (fun c_1 => ?_)
  · have h := o_pos h c_1
    refine g_iconst C (v := 0) dX10_isBelow_13 (by decide) 14 rfl ?_
    exact g_zret C hr (by decide) dX10_isBelow_14 h
  · have h := o_neg h c_1
    refine g_iload_n C dX10_isBelow_4 rfl 0 rfl 5 rfl ?_
    refine g_iload_n C dX10_isBelow_5 rfl 1 rfl 6 rfl ?_
    refine g_icmp_ge C 13 dX10_isBelow_6 (by decide) 9 rfl (fun c_2 => ?_) (fun c_2 => ?_)
    · have h := o_pos h c_2
      refine g_iconst C (v := 0) dX10_isBelow_13 (by decide) 14 rfl ?_
      exact g_zret C hr (by decide) dX10_isBelow_14 h
    · have h := o_neg h c_2
      refine g_iconst C (v := 1) dX10_isBelow_9 (by decide) 10 rfl ?_
      refine g_goto C 14 dX10_isBelow_10 (by decide) ?_
      exact g_zret C hr (by decide) dX10_isBelow_14 h
end WK
/-! X6_byteAt int byteAt(int); -/
def fX6_byteAt (x1 : Int32) (σ : ST) : Option (Int32 × ST) :=
  (Option.bind (fX10_isBelow x1 (gI σ 0) σ) (fun q_1 => (if q_1.1 = 0 then (some ((-1 : Int32), q_1.2)) else (if ((2000 : Int32)) ≤ x1 then (some ((-1 : Int32), q_1.2)) else (if ix x1 2000 then (some ((ldA q_1.2 2 x1) &&& ((255 : Int32)), q_1.2)) else none)))))
section WK
variable {p : Program} {l : Launch} {e : Env} {R : Room} {s : State} {m : MethodId} {args : Array Value} {below : List Frame} {meth : Method} {c : Code} {Q : State → Prop}
variable {D : va_G} {ad : Nat → Nat} {cI cJ cB cZ : ClassId} {A : Nat → Prop} {cc : ByteArray} {nL lev : Nat}
variable {σ : ST} {pc : Nat} {lv : List (Nat × Value)} {st : List Value}
set_option maxHeartbeats 4000000 in
set_option maxRecDepth 100000 in
theorem kX6_byteAt {l : Launch} {D : va_G} {ad : Nat → Nat} {cI cJ cB cZ : ClassId}  {x1 : Int32} {σ : ST} {res : Int32 × ST} (h : fX6_byteAt x1 σ = some res) : CMi l D (tyz cI cJ cB cZ) (wX ad cI cJ cB cZ) 1 yX6_byteAt cX6_byteAt 2 (some .int) [.ref (ad 1), .int x1] σ res := by
  refine cmi_body (own := RX6) (lv := [(0, .ref (ad 1)), (1, .int x1)]) (by decide) rfl (wX_addr _ _ _ _ _) (Nat.le_of_ble_eq_true rfl) rfl (fun p e s m args below meth c A C hr => ?_)
  unfold fX6_byteAt at h
  refine g_iload_n C dX6_byteAt_0 rfl 1 rfl 1 rfl ?_
  refine g_aload_n C dX6_byteAt_1 rfl 0 rfl 2 rfl ?_
  refine wgX6_15_1 C dX6_byteAt_2 5 rfl ?_
  obtain ⟨q_1, hq_1, h⟩ := o_bind h
  refine wcX6_19_X C (kX10_isBelow hq_1) (by decide) (Nat.le_of_ble_eq_true rfl) dX6_byteAt_5 8 rfl ?_
  refine g_if_eq C 31 dX6_byteAt_8 (by decide) 11 rfl (fun c_2 => ?_) (fun c_2 => ?_)
  · have h := o_pos h c_2
    refine g_iconst C (v := -1) dX6_byteAt_31 (by decide) 32 rfl ?_
    exact g_iret C hr dX6_byteAt_32 h
  · have h := o_neg h c_2
    refine g_iload_n C dX6_byteAt_11 rfl 1 rfl 12 rfl ?_
    refine g_sipush C (v := 2000) dX6_byteAt_12 (by decide) 15 rfl ?_
    refine g_icmp_ge C 31 dX6_byteAt_15 (by decide) 18 rfl (fun c_3 => ?_) (fun c_3 => ?_)
    · have h := o_pos h c_3
      refine g_iconst C (v := -1) dX6_byteAt_31 (by decide) 32 rfl ?_
      exact g_iret C hr dX6_byteAt_32 h
    · have h := o_neg h c_3
      refine g_aload_n C dX6_byteAt_18 rfl 0 rfl 19 rfl ?_
      refine wgX6_9_1 C dX6_byteAt_19 22 rfl ?_
      refine g_iload_n C dX6_byteAt_22 rfl 1 rfl 23 rfl ?_
      obtain ⟨c_4, h⟩ := o_chk h
      refine wlX_2 C c_4 dX6_byteAt_23 24 rfl ?_
      refine g_sipush C (v := 255) dX6_byteAt_24 (by decide) 27 rfl ?_
      refine g_iand C dX6_byteAt_27 28 rfl ?_
      refine g_goto C 32 dX6_byteAt_28 (by decide) ?_
      exact g_iret C hr dX6_byteAt_32 h
end WK
/-! X7_isBlank private static boolean isBlank(int); -/
def fX7_isBlank (x0 : Int32) (σ : ST) : Option (Int32 × ST) :=
  (if x0 = ((9 : Int32)) then (some ((1 : Int32), σ)) else (if x0 = ((10 : Int32)) then (some ((1 : Int32), σ)) else (if x0 = ((13 : Int32)) then (some ((1 : Int32), σ)) else (if x0 = ((32 : Int32)) then (some ((1 : Int32), σ)) else (some ((0 : Int32), σ))))))
section WK
variable {p : Program} {l : Launch} {e : Env} {R : Room} {s : State} {m : MethodId} {args : Array Value} {below : List Frame} {meth : Method} {c : Code} {Q : State → Prop}
variable {D : va_G} {ad : Nat → Nat} {cI cJ cB cZ : ClassId} {A : Nat → Prop} {cc : ByteArray} {nL lev : Nat}
variable {σ : ST} {pc : Nat} {lv : List (Nat × Value)} {st : List Value}
set_option maxHeartbeats 4000000 in
set_option maxRecDepth 100000 in
theorem kX7_isBlank {l : Launch} {D : va_G} {ad : Nat → Nat} {cI cJ cB cZ : ClassId}  {x0 : Int32} {σ : ST} {res : Int32 × ST} (h : fX7_isBlank x0 σ = some res) : CMi l D (tyz cI cJ cB cZ) (wX ad cI cJ cB cZ) 0 yX7_isBlank cX7_isBlank 1 (some .boolean) [.int x0] σ res := by
  refine cmi_body (own := RX7) (lv := [(0, .int x0)]) (by decide) rfl (wX_addr _ _ _ _ _) (Nat.le_of_ble_eq_true rfl) rfl (fun p e s m args below meth c A C hr => ?_)
  unfold fX7_isBlank at h
  refine g_iload_n C dX7_isBlank_0 rfl 0 rfl 1 rfl ?_
  refine g_bipush C (v := 9) dX7_isBlank_1 (by decide) 3 rfl ?_
  refine g_icmp_eq C 24 dX7_isBlank_3 (by decide) 6 rfl (fun c_1 => ?_) (fun c_1 => ?_)
  · have h := o_pos h c_1
    refine g_iconst C (v := 1) dX7_isBlank_24 (by decide) 25 rfl ?_
    refine g_goto C 29 dX7_isBlank_25 (by decide) ?_
    exact g_zret C hr (by decide) dX7_isBlank_29 h
  · have h := o_neg h c_1
    refine g_iload_n C dX7_isBlank_6 rfl 0 rfl 7 rfl ?_
    refine g_bipush C (v := 10) dX7_isBlank_7 (by decide) 9 rfl ?_
    refine g_icmp_eq C 24 dX7_isBlank_9 (by decide) 12 rfl (fun c_2 => ?_) (fun c_2 => ?_)
    · have h := o_pos h c_2
      refine g_iconst C (v := 1) dX7_isBlank_24 (by decide) 25 rfl ?_
      refine g_goto C 29 dX7_isBlank_25 (by decide) ?_
      exact g_zret C hr (by decide) dX7_isBlank_29 h
    · have h := o_neg h c_2
      refine g_iload_n C dX7_isBlank_12 rfl 0 rfl 13 rfl ?_
      refine g_bipush C (v := 13) dX7_isBlank_13 (by decide) 15 rfl ?_
      refine g_icmp_eq C 24 dX7_isBlank_15 (by decide) 18 rfl (fun c_3 => ?_) (fun c_3 => ?_)
      · have h := o_pos h c_3
        refine g_iconst C (v := 1) dX7_isBlank_24 (by decide) 25 rfl ?_
        refine g_goto C 29 dX7_isBlank_25 (by decide) ?_
        exact g_zret C hr (by decide) dX7_isBlank_29 h
      · have h := o_neg h c_3
        refine g_iload_n C dX7_isBlank_18 rfl 0 rfl 19 rfl ?_
        refine g_bipush C (v := 32) dX7_isBlank_19 (by decide) 21 rfl ?_
        refine g_icmp_ne C 28 dX7_isBlank_21 (by decide) 24 rfl (fun c_4 => ?_) (fun c_4 => ?_)
        · have h := o_neg h c_4
          refine g_iconst C (v := 0) dX7_isBlank_28 (by decide) 29 rfl ?_
          exact g_zret C hr (by decide) dX7_isBlank_29 h
        · have h := o_pos h c_4
          refine g_iconst C (v := 1) dX7_isBlank_24 (by decide) 25 rfl ?_
          refine g_goto C 29 dX7_isBlank_25 (by decide) ?_
          exact g_zret C hr (by decide) dX7_isBlank_29 h
end WK
/-! X7_skipBlanks private void skipBlanks(); -/
def fX7_skipBlanks_L0  : Nat → ST → Option (ST)
  | 0, _ => none
  | n + 1, σ => (if (gI σ 0) ≤ (gI σ 1) then (some σ) else (Option.bind (fX6_byteAt (gI σ 1) σ) (fun q_7 => (Option.bind (fX7_isBlank q_7.1 q_7.2) (fun q_8 => (if q_8.1 = 0 then (some q_8.2) else (lt (sI q_8.2 1 ((gI q_8.2 1) + ((1 : Int32)))) (fun σ_10 => (fX7_skipBlanks_L0 n σ_10)))))))))
def fX7_skipBlanks (n : Nat)  (σ : ST) : Option (ST) :=
  (if (gI σ 0) ≤ (gI σ 1) then (some σ) else (Option.bind (fX6_byteAt (gI σ 1) σ) (fun q_2 => (Option.bind (fX7_isBlank q_2.1 q_2.2) (fun q_3 => (if q_3.1 = 0 then (some q_3.2) else (lt (sI q_3.2 1 ((gI q_3.2 1) + ((1 : Int32)))) (fun σ_5 => (fX7_skipBlanks_L0 n σ_5)))))))))
section WK
variable {p : Program} {l : Launch} {e : Env} {R : Room} {s : State} {m : MethodId} {args : Array Value} {below : List Frame} {meth : Method} {c : Code} {Q : State → Prop}
variable {D : va_G} {ad : Nat → Nat} {cI cJ cB cZ : ClassId} {A : Nat → Prop} {cc : ByteArray} {nL lev : Nat}
variable {σ : ST} {pc : Nat} {lv : List (Nat × Value)} {st : List Value}
set_option maxHeartbeats 4000000 in
set_option maxRecDepth 100000 in
theorem kX7_skipBlanks_L0 (C : Ctx p l e (rmL 2) s m args below meth c D (tyz cI cJ cB cZ) (wX ad cI cJ cB cZ) A cX7_skipBlanks 1 2 RX7) (hr : meth.sig.returnType = none) {res : ST}   : ∀ (n : Nat) (σ : ST), fX7_skipBlanks_L0 n σ = some res → G p l e (rmL 2) s m args below meth c (MQ below (Qv D (tyz cI cJ cB cZ) (wX ad cI cJ cB cZ) A res) args s 0 0 A) D (wX ad cI cJ cB cZ) A 1 σ 0 [(0, .ref (ad 3))] [] := by
  intro n
  induction n with
  | zero => intro σ h; have h : none = some res := h; cases h
  | succ n ih =>
    intro σ h
    rw [fX7_skipBlanks_L0] at h
    refine g_aload_n C dX7_skipBlanks_0 rfl 0 rfl 1 rfl ?_
    refine wgX7_26_3 C dX7_skipBlanks_1 4 rfl ?_
    refine g_aload_n C dX7_skipBlanks_4 rfl 0 rfl 5 rfl ?_
    refine wgX7_22_3 C dX7_skipBlanks_5 8 rfl ?_
    refine wgX7_41_1 C dX7_skipBlanks_8 11 rfl ?_
    refine g_icmp_ge C 44 dX7_skipBlanks_11 (by decide) 14 rfl (fun c_6 => ?_) (fun c_6 => ?_)
    · have h := o_pos h c_6
      exact g_vret C hr dX7_skipBlanks_44 h
    · have h := o_neg h c_6
      refine g_aload_n C dX7_skipBlanks_14 rfl 0 rfl 15 rfl ?_
      refine wgX7_22_3 C dX7_skipBlanks_15 18 rfl ?_
      refine g_aload_n C dX7_skipBlanks_18 rfl 0 rfl 19 rfl ?_
      refine wgX7_26_3 C dX7_skipBlanks_19 22 rfl ?_
      obtain ⟨q_7, hq_7, h⟩ := o_bind h
      refine wcX7_46_X_1 C (kX6_byteAt hq_7) (by decide) (Nat.le_of_ble_eq_true rfl) dX7_skipBlanks_22 25 rfl ?_
      obtain ⟨q_8, hq_8, h⟩ := o_bind h
      refine wcX7_50_X C (kX7_isBlank hq_8) (by decide) (Nat.le_of_ble_eq_true rfl) dX7_skipBlanks_25 28 rfl ?_
      refine g_if_eq C 44 dX7_skipBlanks_28 (by decide) 31 rfl (fun c_9 => ?_) (fun c_9 => ?_)
      · have h := o_pos h c_9
        exact g_vret C hr dX7_skipBlanks_44 h
      · have h := o_neg h c_9
        refine g_aload_n C dX7_skipBlanks_31 rfl 0 rfl 32 rfl ?_
        refine g_dup C dX7_skipBlanks_32 rfl 33 rfl ?_
        refine wgX7_26_3 C dX7_skipBlanks_33 36 rfl ?_
        refine g_iconst C (v := 1) dX7_skipBlanks_36 (by decide) 37 rfl ?_
        refine g_iadd C dX7_skipBlanks_37 38 rfl ?_
        obtain ⟨σ_10, eσ_10, h⟩ := o_lt h
        refine wpX7_26_3 C eσ_10 dX7_skipBlanks_38 41 rfl ?_
        refine g_goto C 0 dX7_skipBlanks_41 (by decide) ?_
        exact g_sub C [0] rfl (ih σ_10 h)
set_option maxHeartbeats 4000000 in
set_option maxRecDepth 100000 in
theorem kX7_skipBlanks {l : Launch} {D : va_G} {ad : Nat → Nat} {cI cJ cB cZ : ClassId}  {n : Nat}  {σ : ST} {res : ST} (h : fX7_skipBlanks n σ = some res) : CMv l D (tyz cI cJ cB cZ) (wX ad cI cJ cB cZ) 2 yX7_skipBlanks cX7_skipBlanks 1 none [.ref (ad 3)] σ res := by
  refine cmv_body (own := RX7) (lv := [(0, .ref (ad 3))]) (by decide) rfl (wX_addr _ _ _ _ _) (Nat.le_of_ble_eq_true rfl) rfl (fun p e s m args below meth c A C hr => ?_)
  unfold fX7_skipBlanks at h
  refine g_aload_n C dX7_skipBlanks_0 rfl 0 rfl 1 rfl ?_
  refine wgX7_26_3 C dX7_skipBlanks_1 4 rfl ?_
  refine g_aload_n C dX7_skipBlanks_4 rfl 0 rfl 5 rfl ?_
  refine wgX7_22_3 C dX7_skipBlanks_5 8 rfl ?_
  refine wgX7_41_1 C dX7_skipBlanks_8 11 rfl ?_
  refine g_icmp_ge C 44 dX7_skipBlanks_11 (by decide) 14 rfl (fun c_1 => ?_) (fun c_1 => ?_)
  · have h := o_pos h c_1
    exact g_vret C hr dX7_skipBlanks_44 h
  · have h := o_neg h c_1
    refine g_aload_n C dX7_skipBlanks_14 rfl 0 rfl 15 rfl ?_
    refine wgX7_22_3 C dX7_skipBlanks_15 18 rfl ?_
    refine g_aload_n C dX7_skipBlanks_18 rfl 0 rfl 19 rfl ?_
    refine wgX7_26_3 C dX7_skipBlanks_19 22 rfl ?_
    obtain ⟨q_2, hq_2, h⟩ := o_bind h
    refine wcX7_46_X_1 C (kX6_byteAt hq_2) (by decide) (Nat.le_of_ble_eq_true rfl) dX7_skipBlanks_22 25 rfl ?_
    obtain ⟨q_3, hq_3, h⟩ := o_bind h
    refine wcX7_50_X C (kX7_isBlank hq_3) (by decide) (Nat.le_of_ble_eq_true rfl) dX7_skipBlanks_25 28 rfl ?_
    refine g_if_eq C 44 dX7_skipBlanks_28 (by decide) 31 rfl (fun c_4 => ?_) (fun c_4 => ?_)
    · have h := o_pos h c_4
      exact g_vret C hr dX7_skipBlanks_44 h
    · have h := o_neg h c_4
      refine g_aload_n C dX7_skipBlanks_31 rfl 0 rfl 32 rfl ?_
      refine g_dup C dX7_skipBlanks_32 rfl 33 rfl ?_
      refine wgX7_26_3 C dX7_skipBlanks_33 36 rfl ?_
      refine g_iconst C (v := 1) dX7_skipBlanks_36 (by decide) 37 rfl ?_
      refine g_iadd C dX7_skipBlanks_37 38 rfl ?_
      obtain ⟨σ_5, eσ_5, h⟩ := o_lt h
      refine wpX7_26_3 C eσ_5 dX7_skipBlanks_38 41 rfl ?_
      refine g_goto C 0 dX7_skipBlanks_41 (by decide) ?_
      exact g_sub C [0] rfl (kX7_skipBlanks_L0 C hr  n σ_5 h)
end WK
/-! X7_isLetter private static boolean isLetter(int); -/
def fX7_isLetter (x0 : Int32) (σ : ST) : Option (Int32 × ST) :=
  (if x0 < ((97 : Int32)) then (some ((0 : Int32), σ)) else (if ((122 : Int32)) < x0 then (some ((0 : Int32), σ)) else (some ((1 : Int32), σ))))
section WK
variable {p : Program} {l : Launch} {e : Env} {R : Room} {s : State} {m : MethodId} {args : Array Value} {below : List Frame} {meth : Method} {c : Code} {Q : State → Prop}
variable {D : va_G} {ad : Nat → Nat} {cI cJ cB cZ : ClassId} {A : Nat → Prop} {cc : ByteArray} {nL lev : Nat}
variable {σ : ST} {pc : Nat} {lv : List (Nat × Value)} {st : List Value}
set_option maxHeartbeats 4000000 in
set_option maxRecDepth 100000 in
theorem kX7_isLetter {l : Launch} {D : va_G} {ad : Nat → Nat} {cI cJ cB cZ : ClassId}  {x0 : Int32} {σ : ST} {res : Int32 × ST} (h : fX7_isLetter x0 σ = some res) : CMi l D (tyz cI cJ cB cZ) (wX ad cI cJ cB cZ) 0 yX7_isLetter cX7_isLetter 1 (some .boolean) [.int x0] σ res := by
  refine cmi_body (own := RX7) (lv := [(0, .int x0)]) (by decide) rfl (wX_addr _ _ _ _ _) (Nat.le_of_ble_eq_true rfl) rfl (fun p e s m args below meth c A C hr => ?_)
  unfold fX7_isLetter at h
  refine g_iload_n C dX7_isLetter_0 rfl 0 rfl 1 rfl ?_
  refine g_bipush C (v := 97) dX7_isLetter_1 (by decide) 3 rfl ?_
  refine g_icmp_lt C 16 dX7_isLetter_3 (by decide) 6 rfl (fun c_1 => ?_) (fun c_1 => ?_)
  · have h := o_pos h c_1
    refine g_iconst C (v := 0) dX7_isLetter_16 (by decide) 17 rfl ?_
    exact g_zret C hr (by decide) dX7_isLetter_17 h
  · have h := o_neg h c_1
    refine g_iload_n C dX7_isLetter_6 rfl 0 rfl 7 rfl ?_
    refine g_bipush C (v := 122) dX7_isLetter_7 (by decide) 9 rfl ?_
    refine g_icmp_gt C 16 dX7_isLetter_9 (by decide) 12 rfl (fun c_2 => ?_) (fun c_2 => ?_)
    · have h := o_pos h c_2
      refine g_iconst C (v := 0) dX7_isLetter_16 (by decide) 17 rfl ?_
      exact g_zret C hr (by decide) dX7_isLetter_17 h
    · have h := o_neg h c_2
      refine g_iconst C (v := 1) dX7_isLetter_12 (by decide) 13 rfl ?_
      refine g_goto C 17 dX7_isLetter_13 (by decide) ?_
      exact g_zret C hr (by decide) dX7_isLetter_17 h
end WK
/-! X7_isDigit private static boolean isDigit(int); -/
def fX7_isDigit (x0 : Int32) (σ : ST) : Option (Int32 × ST) :=
  (if x0 < ((48 : Int32)) then (some ((0 : Int32), σ)) else (if ((57 : Int32)) < x0 then (some ((0 : Int32), σ)) else (some ((1 : Int32), σ))))
section WK
variable {p : Program} {l : Launch} {e : Env} {R : Room} {s : State} {m : MethodId} {args : Array Value} {below : List Frame} {meth : Method} {c : Code} {Q : State → Prop}
variable {D : va_G} {ad : Nat → Nat} {cI cJ cB cZ : ClassId} {A : Nat → Prop} {cc : ByteArray} {nL lev : Nat}
variable {σ : ST} {pc : Nat} {lv : List (Nat × Value)} {st : List Value}
set_option maxHeartbeats 4000000 in
set_option maxRecDepth 100000 in
theorem kX7_isDigit {l : Launch} {D : va_G} {ad : Nat → Nat} {cI cJ cB cZ : ClassId}  {x0 : Int32} {σ : ST} {res : Int32 × ST} (h : fX7_isDigit x0 σ = some res) : CMi l D (tyz cI cJ cB cZ) (wX ad cI cJ cB cZ) 0 yX7_isDigit cX7_isDigit 1 (some .boolean) [.int x0] σ res := by
  refine cmi_body (own := RX7) (lv := [(0, .int x0)]) (by decide) rfl (wX_addr _ _ _ _ _) (Nat.le_of_ble_eq_true rfl) rfl (fun p e s m args below meth c A C hr => ?_)
  unfold fX7_isDigit at h
  refine g_iload_n C dX7_isDigit_0 rfl 0 rfl 1 rfl ?_
  refine g_bipush C (v := 48) dX7_isDigit_1 (by decide) 3 rfl ?_
  refine g_icmp_lt C 16 dX7_isDigit_3 (by decide) 6 rfl (fun c_1 => ?_) (fun c_1 => ?_)
  · have h := o_pos h c_1
    refine g_iconst C (v := 0) dX7_isDigit_16 (by decide) 17 rfl ?_
    exact g_zret C hr (by decide) dX7_isDigit_17 h
  · have h := o_neg h c_1
    refine g_iload_n C dX7_isDigit_6 rfl 0 rfl 7 rfl ?_
    refine g_bipush C (v := 57) dX7_isDigit_7 (by decide) 9 rfl ?_
    refine g_icmp_gt C 16 dX7_isDigit_9 (by decide) 12 rfl (fun c_2 => ?_) (fun c_2 => ?_)
    · have h := o_pos h c_2
      refine g_iconst C (v := 0) dX7_isDigit_16 (by decide) 17 rfl ?_
      exact g_zret C hr (by decide) dX7_isDigit_17 h
    · have h := o_neg h c_2
      refine g_iconst C (v := 1) dX7_isDigit_12 (by decide) 13 rfl ?_
      refine g_goto C 17 dX7_isDigit_13 (by decide) ?_
      exact g_zret C hr (by decide) dX7_isDigit_17 h
end WK
/-! X7_isSign private static boolean isSign(int); -/
def fX7_isSign (x0 : Int32) (σ : ST) : Option (Int32 × ST) :=
  (if x0 = ((59 : Int32)) then (some ((1 : Int32), σ)) else (if x0 = ((44 : Int32)) then (some ((1 : Int32), σ)) else (if x0 = ((61 : Int32)) then (some ((1 : Int32), σ)) else (if x0 = ((43 : Int32)) then (some ((1 : Int32), σ)) else (if x0 = ((45 : Int32)) then (some ((1 : Int32), σ)) else (if x0 = ((42 : Int32)) then (some ((1 : Int32), σ)) else (if x0 = ((40 : Int32)) then (some ((1 : Int32), σ)) else (if x0 = ((41 : Int32)) then (some ((1 : Int32), σ)) else (some ((0 : Int32), σ))))))))))
section WK
variable {p : Program} {l : Launch} {e : Env} {R : Room} {s : State} {m : MethodId} {args : Array Value} {below : List Frame} {meth : Method} {c : Code} {Q : State → Prop}
variable {D : va_G} {ad : Nat → Nat} {cI cJ cB cZ : ClassId} {A : Nat → Prop} {cc : ByteArray} {nL lev : Nat}
variable {σ : ST} {pc : Nat} {lv : List (Nat × Value)} {st : List Value}
set_option maxHeartbeats 4000000 in
set_option maxRecDepth 100000 in
theorem kX7_isSign {l : Launch} {D : va_G} {ad : Nat → Nat} {cI cJ cB cZ : ClassId}  {x0 : Int32} {σ : ST} {res : Int32 × ST} (h : fX7_isSign x0 σ = some res) : CMi l D (tyz cI cJ cB cZ) (wX ad cI cJ cB cZ) 0 yX7_isSign cX7_isSign 1 (some .boolean) [.int x0] σ res := by
  refine cmi_body (own := RX7) (lv := [(0, .int x0)]) (by decide) rfl (wX_addr _ _ _ _ _) (Nat.le_of_ble_eq_true rfl) rfl (fun p e s m args below meth c A C hr => ?_)
  unfold fX7_isSign at h
  refine g_iload_n C dX7_isSign_0 rfl 0 rfl 1 rfl ?_
  refine g_bipush C (v := 59) dX7_isSign_1 (by decide) 3 rfl ?_
  refine g_icmp_eq C 48 dX7_isSign_3 (by decide) 6 rfl (fun c_1 => ?_) (fun c_1 => ?_)
  · have h := o_pos h c_1
    refine g_iconst C (v := 1) dX7_isSign_48 (by decide) 49 rfl ?_
    refine g_goto C 53 dX7_isSign_49 (by decide) ?_
    exact g_zret C hr (by decide) dX7_isSign_53 h
  · have h := o_neg h c_1
    refine g_iload_n C dX7_isSign_6 rfl 0 rfl 7 rfl ?_
    refine g_bipush C (v := 44) dX7_isSign_7 (by decide) 9 rfl ?_
    refine g_icmp_eq C 48 dX7_isSign_9 (by decide) 12 rfl (fun c_2 => ?_) (fun c_2 => ?_)
    · have h := o_pos h c_2
      refine g_iconst C (v := 1) dX7_isSign_48 (by decide) 49 rfl ?_
      refine g_goto C 53 dX7_isSign_49 (by decide) ?_
      exact g_zret C hr (by decide) dX7_isSign_53 h
    · have h := o_neg h c_2
      refine g_iload_n C dX7_isSign_12 rfl 0 rfl 13 rfl ?_
      refine g_bipush C (v := 61) dX7_isSign_13 (by decide) 15 rfl ?_
      refine g_icmp_eq C 48 dX7_isSign_15 (by decide) 18 rfl (fun c_3 => ?_) (fun c_3 => ?_)
      · have h := o_pos h c_3
        refine g_iconst C (v := 1) dX7_isSign_48 (by decide) 49 rfl ?_
        refine g_goto C 53 dX7_isSign_49 (by decide) ?_
        exact g_zret C hr (by decide) dX7_isSign_53 h
      · have h := o_neg h c_3
        refine g_iload_n C dX7_isSign_18 rfl 0 rfl 19 rfl ?_
        refine g_bipush C (v := 43) dX7_isSign_19 (by decide) 21 rfl ?_
        refine g_icmp_eq C 48 dX7_isSign_21 (by decide) 24 rfl (fun c_4 => ?_) (fun c_4 => ?_)
        · have h := o_pos h c_4
          refine g_iconst C (v := 1) dX7_isSign_48 (by decide) 49 rfl ?_
          refine g_goto C 53 dX7_isSign_49 (by decide) ?_
          exact g_zret C hr (by decide) dX7_isSign_53 h
        · have h := o_neg h c_4
          refine g_iload_n C dX7_isSign_24 rfl 0 rfl 25 rfl ?_
          refine g_bipush C (v := 45) dX7_isSign_25 (by decide) 27 rfl ?_
          refine g_icmp_eq C 48 dX7_isSign_27 (by decide) 30 rfl (fun c_5 => ?_) (fun c_5 => ?_)
          · have h := o_pos h c_5
            refine g_iconst C (v := 1) dX7_isSign_48 (by decide) 49 rfl ?_
            refine g_goto C 53 dX7_isSign_49 (by decide) ?_
            exact g_zret C hr (by decide) dX7_isSign_53 h
          · have h := o_neg h c_5
            refine g_iload_n C dX7_isSign_30 rfl 0 rfl 31 rfl ?_
            refine g_bipush C (v := 42) dX7_isSign_31 (by decide) 33 rfl ?_
            refine g_icmp_eq C 48 dX7_isSign_33 (by decide) 36 rfl (fun c_6 => ?_) (fun c_6 => ?_)
            · have h := o_pos h c_6
              refine g_iconst C (v := 1) dX7_isSign_48 (by decide) 49 rfl ?_
              refine g_goto C 53 dX7_isSign_49 (by decide) ?_
              exact g_zret C hr (by decide) dX7_isSign_53 h
            · have h := o_neg h c_6
              refine g_iload_n C dX7_isSign_36 rfl 0 rfl 37 rfl ?_
              refine g_bipush C (v := 40) dX7_isSign_37 (by decide) 39 rfl ?_
              refine g_icmp_eq C 48 dX7_isSign_39 (by decide) 42 rfl (fun c_7 => ?_) (fun c_7 => ?_)
              · have h := o_pos h c_7
                refine g_iconst C (v := 1) dX7_isSign_48 (by decide) 49 rfl ?_
                refine g_goto C 53 dX7_isSign_49 (by decide) ?_
                exact g_zret C hr (by decide) dX7_isSign_53 h
              · have h := o_neg h c_7
                refine g_iload_n C dX7_isSign_42 rfl 0 rfl 43 rfl ?_
                refine g_bipush C (v := 41) dX7_isSign_43 (by decide) 45 rfl ?_
                refine g_icmp_ne C 52 dX7_isSign_45 (by decide) 48 rfl (fun c_8 => ?_) (fun c_8 => ?_)
                · have h := o_neg h c_8
                  refine g_iconst C (v := 0) dX7_isSign_52 (by decide) 53 rfl ?_
                  exact g_zret C hr (by decide) dX7_isSign_53 h
                · have h := o_pos h c_8
                  refine g_iconst C (v := 1) dX7_isSign_48 (by decide) 49 rfl ?_
                  refine g_goto C 53 dX7_isSign_49 (by decide) ?_
                  exact g_zret C hr (by decide) dX7_isSign_53 h
end WK
/-! X7_scanNumber private int scanNumber(); -/
def fX7_scanNumber_L5 (k78 : Int32 → ST → Option (Int32 × ST)) : Nat → Int32 → ST → Option (Int32 × ST)
  | 0, _, _ => none
  | n + 1, x1, σ => (if (gI σ 0) ≤ (gI σ 1) then (k78 x1 σ) else (Option.bind (fX6_byteAt (gI σ 1) σ) (fun q_3 => (Option.bind (fX7_isDigit q_3.1 q_3.2) (fun q_4 => (if q_4.1 = 0 then (k78 x1 q_4.2) else (Option.bind (fX6_byteAt (gI q_4.2 1) q_4.2) (fun q_6 => (lt (sL q_6.2 0 ((((gL q_4.2 0) * ((10 : Int64))) + q_6.1.toInt64) - ((48 : Int64)))) (fun σ_7 => (lt (sI σ_7 1 ((gI σ_7 1) + ((1 : Int32)))) (fun σ_8 => (fX7_scanNumber_L5 k78 n x1 σ_8)))))))))))))
def fX7_scanNumber (n : Nat)  (σ : ST) : Option (Int32 × ST) :=
  (lt (gI σ 1) (fun x1_1 => (fX7_scanNumber_L5 (fun (x1_9 : Int32) (σ_10 : ST) => (if ((gI σ_10 1) - x1_9) ≤ ((4 : Int32)) then (some ((257 : Int32), σ_10)) else (some ((259 : Int32), σ_10)))) n x1_1 σ)))
section WK
variable {p : Program} {l : Launch} {e : Env} {R : Room} {s : State} {m : MethodId} {args : Array Value} {below : List Frame} {meth : Method} {c : Code} {Q : State → Prop}
variable {D : va_G} {ad : Nat → Nat} {cI cJ cB cZ : ClassId} {A : Nat → Prop} {cc : ByteArray} {nL lev : Nat}
variable {σ : ST} {pc : Nat} {lv : List (Nat × Value)} {st : List Value}
set_option maxHeartbeats 4000000 in
set_option maxRecDepth 100000 in
theorem kX7_scanNumber_L5 (C : Ctx p l e (rmL 2) s m args below meth c D (tyz cI cJ cB cZ) (wX ad cI cJ cB cZ) A cX7_scanNumber 2 2 RX7) (hr : meth.sig.returnType = some .int) {res : Int32 × ST} {k78 : Int32 → ST → Option (Int32 × ST)} (hk78 : ∀ (x1 : Int32) (σ : ST), k78 x1 σ = some res → G p l e (rmL 2) s m args below meth c (MQ below (Qi D (tyz cI cJ cB cZ) (wX ad cI cJ cB cZ) A res) args s 0 0 A) D (wX ad cI cJ cB cZ) A 2 σ 78 [(0, .ref (ad 3)), (1, .int x1)] []) : ∀ (n : Nat) (x1 : Int32) (σ : ST), fX7_scanNumber_L5 k78 n x1 σ = some res → G p l e (rmL 2) s m args below meth c (MQ below (Qi D (tyz cI cJ cB cZ) (wX ad cI cJ cB cZ) A res) args s 0 0 A) D (wX ad cI cJ cB cZ) A 2 σ 5 [(0, .ref (ad 3)), (1, .int x1)] [] := by
  intro n
  induction n with
  | zero => intro x1 σ h; have h : none = some res := h; cases h
  | succ n ih =>
    intro x1 σ h
    rw [fX7_scanNumber_L5] at h
    refine g_aload_n C dX7_scanNumber_5 rfl 0 rfl 6 rfl ?_
    refine wgX7_26_3 C dX7_scanNumber_6 9 rfl ?_
    refine g_aload_n C dX7_scanNumber_9 rfl 0 rfl 10 rfl ?_
    refine wgX7_22_3 C dX7_scanNumber_10 13 rfl ?_
    refine wgX7_41_1 C dX7_scanNumber_13 16 rfl ?_
    refine g_icmp_ge C 78 dX7_scanNumber_16 (by decide) 19 rfl (fun c_2 => ?_) (fun c_2 => ?_)
    · have h := o_pos h c_2
      exact g_sub C [0, 1] rfl (hk78 x1 σ h)
    · have h := o_neg h c_2
      refine g_aload_n C dX7_scanNumber_19 rfl 0 rfl 20 rfl ?_
      refine wgX7_22_3 C dX7_scanNumber_20 23 rfl ?_
      refine g_aload_n C dX7_scanNumber_23 rfl 0 rfl 24 rfl ?_
      refine wgX7_26_3 C dX7_scanNumber_24 27 rfl ?_
      obtain ⟨q_3, hq_3, h⟩ := o_bind h
      refine wcX7_46_X_1 C (kX6_byteAt hq_3) (by decide) (Nat.le_of_ble_eq_true rfl) dX7_scanNumber_27 30 rfl ?_
      obtain ⟨q_4, hq_4, h⟩ := o_bind h
      refine wcX7_60_X C (kX7_isDigit hq_4) (by decide) (Nat.le_of_ble_eq_true rfl) dX7_scanNumber_30 33 rfl ?_
      refine g_if_eq C 78 dX7_scanNumber_33 (by decide) 36 rfl (fun c_5 => ?_) (fun c_5 => ?_)
      · have h := o_pos h c_5
        exact g_sub C [0, 1] rfl (hk78 x1 q_4.2 h)
      · have h := o_neg h c_5
        refine g_aload_n C dX7_scanNumber_36 rfl 0 rfl 37 rfl ?_
        refine g_aload_n C dX7_scanNumber_37 rfl 0 rfl 38 rfl ?_
        refine wgX7_37_3 C dX7_scanNumber_38 41 rfl ?_
        refine g_ldc2 C (inr_13 _ (List.mem_of_getElem? (i := 16) rfl)) dX7_scanNumber_41 44 rfl ?_
        refine g_lmul C dX7_scanNumber_44 45 rfl ?_
        refine g_aload_n C dX7_scanNumber_45 rfl 0 rfl 46 rfl ?_
        refine wgX7_22_3 C dX7_scanNumber_46 49 rfl ?_
        refine g_aload_n C dX7_scanNumber_49 rfl 0 rfl 50 rfl ?_
        refine wgX7_26_3 C dX7_scanNumber_50 53 rfl ?_
        obtain ⟨q_6, hq_6, h⟩ := o_bind h
        refine wcX7_46_X_1 C (kX6_byteAt hq_6) (by decide) (Nat.le_of_ble_eq_true rfl) dX7_scanNumber_53 56 rfl ?_
        refine g_i2l C dX7_scanNumber_56 57 rfl ?_
        refine g_ladd C dX7_scanNumber_57 58 rfl ?_
        refine g_ldc2 C (inr_13 _ (List.mem_of_getElem? (i := 17) rfl)) dX7_scanNumber_58 61 rfl ?_
        refine g_lsub C dX7_scanNumber_61 62 rfl ?_
        obtain ⟨σ_7, eσ_7, h⟩ := o_lt h
        refine wpX7_37_3 C eσ_7 dX7_scanNumber_62 65 rfl ?_
        refine g_aload_n C dX7_scanNumber_65 rfl 0 rfl 66 rfl ?_
        refine g_dup C dX7_scanNumber_66 rfl 67 rfl ?_
        refine wgX7_26_3 C dX7_scanNumber_67 70 rfl ?_
        refine g_iconst C (v := 1) dX7_scanNumber_70 (by decide) 71 rfl ?_
        refine g_iadd C dX7_scanNumber_71 72 rfl ?_
        obtain ⟨σ_8, eσ_8, h⟩ := o_lt h
        refine wpX7_26_3 C eσ_8 dX7_scanNumber_72 75 rfl ?_
        refine g_goto C 5 dX7_scanNumber_75 (by decide) ?_
        exact g_sub C [0, 1] rfl (ih x1 σ_8 h)
set_option maxHeartbeats 4000000 in
set_option maxRecDepth 100000 in
theorem kX7_scanNumber {l : Launch} {D : va_G} {ad : Nat → Nat} {cI cJ cB cZ : ClassId}  {n : Nat}  {σ : ST} {res : Int32 × ST} (h : fX7_scanNumber n σ = some res) : CMi l D (tyz cI cJ cB cZ) (wX ad cI cJ cB cZ) 2 yX7_scanNumber cX7_scanNumber 2 (some .int) [.ref (ad 3)] σ res := by
  refine cmi_body (own := RX7) (lv := [(0, .ref (ad 3))]) (by decide) rfl (wX_addr _ _ _ _ _) (Nat.le_of_ble_eq_true rfl) rfl (fun p e s m args below meth c A C hr => ?_)
  unfold fX7_scanNumber at h
  refine g_aload_n C dX7_scanNumber_0 rfl 0 rfl 1 rfl ?_
  refine wgX7_26_3 C dX7_scanNumber_1 4 rfl ?_
  obtain ⟨x1_1, ex1_1, h⟩ := o_lt h
  refine g_istore_n C (lv' := [(1, .int x1_1), (0, .ref (ad 3))]) ex1_1 dX7_scanNumber_4 rfl (by decide) rfl 5 rfl ?_
  exact g_sub C [1, 0] rfl (kX7_scanNumber_L5 C hr (fun x1_9 σ_10 h => by
      refine g_aload_n C dX7_scanNumber_78 rfl 0 rfl 79 rfl ?_
      refine wgX7_26_3 C dX7_scanNumber_79 82 rfl ?_
      refine g_iload_n C dX7_scanNumber_82 rfl 1 rfl 83 rfl ?_
      refine g_isub C dX7_scanNumber_83 84 rfl ?_
      refine g_iconst C (v := 4) dX7_scanNumber_84 (by decide) 85 rfl ?_
      refine g_icmp_le C 94 dX7_scanNumber_85 (by decide) 88 rfl (fun c_11 => ?_) (fun c_11 => ?_)
      · have h := o_pos h c_11
        refine g_sipush C (v := 257) dX7_scanNumber_94 (by decide) 97 rfl ?_
        exact g_iret C hr dX7_scanNumber_97 h
      · have h := o_neg h c_11
        refine g_sipush C (v := 259) dX7_scanNumber_88 (by decide) 91 rfl ?_
        refine g_goto C 97 dX7_scanNumber_91 (by decide) ?_
        exact g_iret C hr dX7_scanNumber_97 h) n x1_1 σ h)
end WK
/-! X7_kindOfWord private static int kindOfWord(long); -/
def fX7_kindOfWord (x0 : Int64) (σ : ST) : Option (Int32 × ST) :=
  (if (lg_cmp x0 ((1885434484 : Int64))) = 0 then (some ((260 : Int32), σ)) else (if (lg_cmp x0 ((125780003615348 : Int64))) = 0 then (some ((261 : Int32), σ)) else (if (lg_cmp x0 ((499850634611 : Int64))) = 0 then (some ((262 : Int32), σ)) else (if (lg_cmp x0 ((6583653 : Int64))) = 0 then (some ((263 : Int32), σ)) else (if (lg_cmp x0 ((131277443786868 : Int64))) = 0 then (some ((264 : Int32), σ)) else (if (lg_cmp x0 ((7566701 : Int64))) = 0 then (some ((265 : Int32), σ)) else (if (lg_cmp x0 ((427071729268 : Int64))) = 0 then (some ((266 : Int32), σ)) else (if (lg_cmp x0 ((1836020596 : Int64))) = 0 then (some ((267 : Int32), σ)) else (if (lg_cmp x0 ((7168376 : Int64))) = 0 then (some ((268 : Int32), σ)) else (some ((256 : Int32), σ)))))))))))
section WK
variable {p : Program} {l : Launch} {e : Env} {R : Room} {s : State} {m : MethodId} {args : Array Value} {below : List Frame} {meth : Method} {c : Code} {Q : State → Prop}
variable {D : va_G} {ad : Nat → Nat} {cI cJ cB cZ : ClassId} {A : Nat → Prop} {cc : ByteArray} {nL lev : Nat}
variable {σ : ST} {pc : Nat} {lv : List (Nat × Value)} {st : List Value}
set_option maxHeartbeats 4000000 in
set_option maxRecDepth 100000 in
theorem kX7_kindOfWord {l : Launch} {D : va_G} {ad : Nat → Nat} {cI cJ cB cZ : ClassId}  {x0 : Int64} {σ : ST} {res : Int32 × ST} (h : fX7_kindOfWord x0 σ = some res) : CMi l D (tyz cI cJ cB cZ) (wX ad cI cJ cB cZ) 0 yX7_kindOfWord cX7_kindOfWord 2 (some .int) [.long x0] σ res := by
  refine cmi_body (own := RX7) (lv := [(0, .long x0)]) (by decide) rfl (wX_addr _ _ _ _ _) (Nat.le_of_ble_eq_true rfl) rfl (fun p e s m args below meth c A C hr => ?_)
  unfold fX7_kindOfWord at h
  refine g_lload_n C dX7_kindOfWord_0 rfl 0 rfl 1 rfl ?_
  refine g_ldc2 C (inr_13 _ (List.mem_of_getElem? (i := 3) rfl)) dX7_kindOfWord_1 4 rfl ?_
  refine g_lcmp C dX7_kindOfWord_4 5 rfl ?_
  refine g_if_ne C 12 dX7_kindOfWord_5 (by decide) 8 rfl (fun c_1 => ?_) (fun c_1 => ?_)
  · have h := o_neg h c_1
    refine g_lload_n C dX7_kindOfWord_12 rfl 0 rfl 13 rfl ?_
    refine g_ldc2 C (inr_13 _ (List.mem_of_getElem? (i := 4) rfl)) dX7_kindOfWord_13 16 rfl ?_
    refine g_lcmp C dX7_kindOfWord_16 17 rfl ?_
    refine g_if_ne C 24 dX7_kindOfWord_17 (by decide) 20 rfl (fun c_2 => ?_) (fun c_2 => ?_)
    · have h := o_neg h c_2
      refine g_lload_n C dX7_kindOfWord_24 rfl 0 rfl 25 rfl ?_
      refine g_ldc2 C (inr_13 _ (List.mem_of_getElem? (i := 5) rfl)) dX7_kindOfWord_25 28 rfl ?_
      refine g_lcmp C dX7_kindOfWord_28 29 rfl ?_
      refine g_if_ne C 36 dX7_kindOfWord_29 (by decide) 32 rfl (fun c_3 => ?_) (fun c_3 => ?_)
      · have h := o_neg h c_3
        refine g_lload_n C dX7_kindOfWord_36 rfl 0 rfl 37 rfl ?_
        refine g_ldc2 C (inr_13 _ (List.mem_of_getElem? (i := 6) rfl)) dX7_kindOfWord_37 40 rfl ?_
        refine g_lcmp C dX7_kindOfWord_40 41 rfl ?_
        refine g_if_ne C 48 dX7_kindOfWord_41 (by decide) 44 rfl (fun c_4 => ?_) (fun c_4 => ?_)
        · have h := o_neg h c_4
          refine g_lload_n C dX7_kindOfWord_48 rfl 0 rfl 49 rfl ?_
          refine g_ldc2 C (inr_13 _ (List.mem_of_getElem? (i := 7) rfl)) dX7_kindOfWord_49 52 rfl ?_
          refine g_lcmp C dX7_kindOfWord_52 53 rfl ?_
          refine g_if_ne C 60 dX7_kindOfWord_53 (by decide) 56 rfl (fun c_5 => ?_) (fun c_5 => ?_)
          · have h := o_neg h c_5
            refine g_lload_n C dX7_kindOfWord_60 rfl 0 rfl 61 rfl ?_
            refine g_ldc2 C (inr_13 _ (List.mem_of_getElem? (i := 8) rfl)) dX7_kindOfWord_61 64 rfl ?_
            refine g_lcmp C dX7_kindOfWord_64 65 rfl ?_
            refine g_if_ne C 72 dX7_kindOfWord_65 (by decide) 68 rfl (fun c_6 => ?_) (fun c_6 => ?_)
            · have h := o_neg h c_6
              refine g_lload_n C dX7_kindOfWord_72 rfl 0 rfl 73 rfl ?_
              refine g_ldc2 C (inr_13 _ (List.mem_of_getElem? (i := 9) rfl)) dX7_kindOfWord_73 76 rfl ?_
              refine g_lcmp C dX7_kindOfWord_76 77 rfl ?_
              refine g_if_ne C 84 dX7_kindOfWord_77 (by decide) 80 rfl (fun c_7 => ?_) (fun c_7 => ?_)
              · have h := o_neg h c_7
                refine g_lload_n C dX7_kindOfWord_84 rfl 0 rfl 85 rfl ?_
                refine g_ldc2 C (inr_13 _ (List.mem_of_getElem? (i := 10) rfl)) dX7_kindOfWord_85 88 rfl ?_
                refine g_lcmp C dX7_kindOfWord_88 89 rfl ?_
                refine g_if_ne C 96 dX7_kindOfWord_89 (by decide) 92 rfl (fun c_8 => ?_) (fun c_8 => ?_)
                · have h := o_neg h c_8
                  refine g_lload_n C dX7_kindOfWord_96 rfl 0 rfl 97 rfl ?_
                  refine g_ldc2 C (inr_13 _ (List.mem_of_getElem? (i := 11) rfl)) dX7_kindOfWord_97 100 rfl ?_
                  refine g_lcmp C dX7_kindOfWord_100 101 rfl ?_
                  refine g_if_ne C 110 dX7_kindOfWord_101 (by decide) 104 rfl (fun c_9 => ?_) (fun c_9 => ?_)
                  · have h := o_neg h c_9
                    refine g_sipush C (v := 256) dX7_kindOfWord_110 (by decide) 113 rfl ?_
                    exact g_iret C hr dX7_kindOfWord_113 h
                  · have h := o_pos h c_9
                    refine g_sipush C (v := 268) dX7_kindOfWord_104 (by decide) 107 rfl ?_
                    refine g_goto C 113 dX7_kindOfWord_107 (by decide) ?_
                    exact g_iret C hr dX7_kindOfWord_113 h
                · have h := o_pos h c_8
                  refine g_sipush C (v := 267) dX7_kindOfWord_92 (by decide) 95 rfl ?_
                  exact g_iret C hr dX7_kindOfWord_95 h
              · have h := o_pos h c_7
                refine g_sipush C (v := 266) dX7_kindOfWord_80 (by decide) 83 rfl ?_
                exact g_iret C hr dX7_kindOfWord_83 h
            · have h := o_pos h c_6
              refine g_sipush C (v := 265) dX7_kindOfWord_68 (by decide) 71 rfl ?_
              exact g_iret C hr dX7_kindOfWord_71 h
          · have h := o_pos h c_5
            refine g_sipush C (v := 264) dX7_kindOfWord_56 (by decide) 59 rfl ?_
            exact g_iret C hr dX7_kindOfWord_59 h
        · have h := o_pos h c_4
          refine g_sipush C (v := 263) dX7_kindOfWord_44 (by decide) 47 rfl ?_
          exact g_iret C hr dX7_kindOfWord_47 h
      · have h := o_pos h c_3
        refine g_sipush C (v := 262) dX7_kindOfWord_32 (by decide) 35 rfl ?_
        exact g_iret C hr dX7_kindOfWord_35 h
    · have h := o_pos h c_2
      refine g_sipush C (v := 261) dX7_kindOfWord_20 (by decide) 23 rfl ?_
      exact g_iret C hr dX7_kindOfWord_23 h
  · have h := o_pos h c_1
    refine g_sipush C (v := 260) dX7_kindOfWord_8 (by decide) 11 rfl ?_
    exact g_iret C hr dX7_kindOfWord_11 h
end WK
/-! X7_scanWord private int scanWord(); -/
def fX7_scanWord_L5 (k90 : Int32 → ST → Option (Int32 × ST)) : Nat → Int32 → ST → Option (Int32 × ST)
  | 0, _, _ => none
  | n + 1, x1, σ => (if (gI σ 0) ≤ (gI σ 1) then (k90 x1 σ) else (Option.bind (fX6_byteAt (gI σ 1) σ) (fun q_3 => (Option.bind (fX7_isLetter q_3.1 q_3.2) (fun q_4 => (lt (fun (x1_5 : Int32) (σ_6 : ST) => (Option.bind (fX6_byteAt (gI σ_6 1) σ_6) (fun q_7 => (lt (sL q_7.2 0 (((gL σ_6 0) <<< (((8 : Int32)).toInt64 &&& 63)) ||| q_7.1.toInt64)) (fun σ_8 => (lt (sI σ_8 1 ((gI σ_8 1) + ((1 : Int32)))) (fun σ_9 => (fX7_scanWord_L5 k90 n x1_5 σ_9)))))))) (fun j53 => (if q_4.1 = 0 then (Option.bind (fX6_byteAt (gI q_4.2 1) q_4.2) (fun q_11 => (Option.bind (fX7_isDigit q_11.1 q_11.2) (fun q_12 => (if q_12.1 = 0 then (k90 x1 q_12.2) else (j53 x1 q_12.2)))))) else (j53 x1 q_4.2)))))))))
def fX7_scanWord (n : Nat)  (σ : ST) : Option (Int32 × ST) :=
  (lt (gI σ 1) (fun x1_1 => (fX7_scanWord_L5 (fun (x1_14 : Int32) (σ_15 : ST) => (if ((gI σ_15 1) - x1_14) ≤ ((8 : Int32)) then (Option.bind (fX7_kindOfWord (gL σ_15 0) σ_15) (fun q_17 => (some (q_17.1, q_17.2)))) else (some ((259 : Int32), σ_15)))) n x1_1 σ)))
section WK
variable {p : Program} {l : Launch} {e : Env} {R : Room} {s : State} {m : MethodId} {args : Array Value} {below : List Frame} {meth : Method} {c : Code} {Q : State → Prop}
variable {D : va_G} {ad : Nat → Nat} {cI cJ cB cZ : ClassId} {A : Nat → Prop} {cc : ByteArray} {nL lev : Nat}
variable {σ : ST} {pc : Nat} {lv : List (Nat × Value)} {st : List Value}
set_option maxHeartbeats 4000000 in
set_option maxRecDepth 100000 in
theorem kX7_scanWord_L5 (C : Ctx p l e (rmL 2) s m args below meth c D (tyz cI cJ cB cZ) (wX ad cI cJ cB cZ) A cX7_scanWord 2 2 RX7) (hr : meth.sig.returnType = some .int) {res : Int32 × ST} {k90 : Int32 → ST → Option (Int32 × ST)} (hk90 : ∀ (x1 : Int32) (σ : ST), k90 x1 σ = some res → G p l e (rmL 2) s m args below meth c (MQ below (Qi D (tyz cI cJ cB cZ) (wX ad cI cJ cB cZ) A res) args s 0 0 A) D (wX ad cI cJ cB cZ) A 2 σ 90 [(0, .ref (ad 3)), (1, .int x1)] []) : ∀ (n : Nat) (x1 : Int32) (σ : ST), fX7_scanWord_L5 k90 n x1 σ = some res → G p l e (rmL 2) s m args below meth c (MQ below (Qi D (tyz cI cJ cB cZ) (wX ad cI cJ cB cZ) A res) args s 0 0 A) D (wX ad cI cJ cB cZ) A 2 σ 5 [(0, .ref (ad 3)), (1, .int x1)] [] := by
  intro n
  induction n with
  | zero => intro x1 σ h; have h : none = some res := h; cases h
  | succ n ih =>
    intro x1 σ h
    rw [fX7_scanWord_L5] at h
    refine g_aload_n C dX7_scanWord_5 rfl 0 rfl 6 rfl ?_
    refine wgX7_26_3 C dX7_scanWord_6 9 rfl ?_
    refine g_aload_n C dX7_scanWord_9 rfl 0 rfl 10 rfl ?_
    refine wgX7_22_3 C dX7_scanWord_10 13 rfl ?_
    refine wgX7_41_1 C dX7_scanWord_13 16 rfl ?_
    refine g_icmp_ge C 90 dX7_scanWord_16 (by decide) 19 rfl (fun c_2 => ?_) (fun c_2 => ?_)
    · have h := o_pos h c_2
      exact g_sub C [0, 1] rfl (hk90 x1 σ h)
    · have h := o_neg h c_2
      refine g_aload_n C dX7_scanWord_19 rfl 0 rfl 20 rfl ?_
      refine wgX7_22_3 C dX7_scanWord_20 23 rfl ?_
      refine g_aload_n C dX7_scanWord_23 rfl 0 rfl 24 rfl ?_
      refine wgX7_26_3 C dX7_scanWord_24 27 rfl ?_
      obtain ⟨q_3, hq_3, h⟩ := o_bind h
      refine wcX7_46_X_1 C (kX6_byteAt hq_3) (by decide) (Nat.le_of_ble_eq_true rfl) dX7_scanWord_27 30 rfl ?_
      obtain ⟨q_4, hq_4, h⟩ := o_bind h
      refine wcX7_54_X C (kX7_isLetter hq_4) (by decide) (Nat.le_of_ble_eq_true rfl) dX7_scanWord_30 33 rfl ?_
      obtain ⟨j53, ej53, h⟩ := o_lt h
      have hj53 : ∀ (x1_5 : Int32) (σ_6 : ST), j53 x1_5 σ_6 = some res → G p l e (rmL 2) s m args below meth c (MQ below (Qi D (tyz cI cJ cB cZ) (wX ad cI cJ cB cZ) A res) args s 0 0 A) D (wX ad cI cJ cB cZ) A 2 σ_6 53 [(0, .ref (ad 3)), (1, .int x1_5)] [] := by
        intro x1_5 σ_6 h
        rw [ej53] at h
        refine g_aload_n C dX7_scanWord_53 rfl 0 rfl 54 rfl ?_
        refine g_aload_n C dX7_scanWord_54 rfl 0 rfl 55 rfl ?_
        refine wgX7_37_3 C dX7_scanWord_55 58 rfl ?_
        refine g_bipush C (v := 8) dX7_scanWord_58 (by decide) 60 rfl ?_
        refine g_lshl C dX7_scanWord_60 61 rfl ?_
        refine g_aload_n C dX7_scanWord_61 rfl 0 rfl 62 rfl ?_
        refine wgX7_22_3 C dX7_scanWord_62 65 rfl ?_
        refine g_aload_n C dX7_scanWord_65 rfl 0 rfl 66 rfl ?_
        refine wgX7_26_3 C dX7_scanWord_66 69 rfl ?_
        obtain ⟨q_7, hq_7, h⟩ := o_bind h
        refine wcX7_46_X_1 C (kX6_byteAt hq_7) (by decide) (Nat.le_of_ble_eq_true rfl) dX7_scanWord_69 72 rfl ?_
        refine g_i2l C dX7_scanWord_72 73 rfl ?_
        refine g_lor C dX7_scanWord_73 74 rfl ?_
        obtain ⟨σ_8, eσ_8, h⟩ := o_lt h
        refine wpX7_37_3 C eσ_8 dX7_scanWord_74 77 rfl ?_
        refine g_aload_n C dX7_scanWord_77 rfl 0 rfl 78 rfl ?_
        refine g_dup C dX7_scanWord_78 rfl 79 rfl ?_
        refine wgX7_26_3 C dX7_scanWord_79 82 rfl ?_
        refine g_iconst C (v := 1) dX7_scanWord_82 (by decide) 83 rfl ?_
        refine g_iadd C dX7_scanWord_83 84 rfl ?_
        obtain ⟨σ_9, eσ_9, h⟩ := o_lt h
        refine wpX7_26_3 C eσ_9 dX7_scanWord_84 87 rfl ?_
        refine g_goto C 5 dX7_scanWord_87 (by decide) ?_
        exact g_sub C [0, 1] rfl (ih x1_5 σ_9 h)
      refine g_if_ne C 53 dX7_scanWord_33 (by decide) 36 rfl (fun c_10 => ?_) (fun c_10 => ?_)
      · have h := o_neg h c_10
        exact g_sub C [0, 1] rfl (hj53 x1 q_4.2 h)
      · have h := o_pos h c_10
        refine g_aload_n C dX7_scanWord_36 rfl 0 rfl 37 rfl ?_
        refine wgX7_22_3 C dX7_scanWord_37 40 rfl ?_
        refine g_aload_n C dX7_scanWord_40 rfl 0 rfl 41 rfl ?_
        refine wgX7_26_3 C dX7_scanWord_41 44 rfl ?_
        obtain ⟨q_11, hq_11, h⟩ := o_bind h
        refine wcX7_46_X_1 C (kX6_byteAt hq_11) (by decide) (Nat.le_of_ble_eq_true rfl) dX7_scanWord_44 47 rfl ?_
        obtain ⟨q_12, hq_12, h⟩ := o_bind h
        refine wcX7_60_X C (kX7_isDigit hq_12) (by decide) (Nat.le_of_ble_eq_true rfl) dX7_scanWord_47 50 rfl ?_
        refine g_if_eq C 90 dX7_scanWord_50 (by decide) 53 rfl (fun c_13 => ?_) (fun c_13 => ?_)
        · have h := o_pos h c_13
          exact g_sub C [0, 1] rfl (hk90 x1 q_12.2 h)
        · have h := o_neg h c_13
          exact g_sub C [0, 1] rfl (hj53 x1 q_12.2 h)
set_option maxHeartbeats 4000000 in
set_option maxRecDepth 100000 in
theorem kX7_scanWord {l : Launch} {D : va_G} {ad : Nat → Nat} {cI cJ cB cZ : ClassId}  {n : Nat}  {σ : ST} {res : Int32 × ST} (h : fX7_scanWord n σ = some res) : CMi l D (tyz cI cJ cB cZ) (wX ad cI cJ cB cZ) 2 yX7_scanWord cX7_scanWord 2 (some .int) [.ref (ad 3)] σ res := by
  refine cmi_body (own := RX7) (lv := [(0, .ref (ad 3))]) (by decide) rfl (wX_addr _ _ _ _ _) (Nat.le_of_ble_eq_true rfl) rfl (fun p e s m args below meth c A C hr => ?_)
  unfold fX7_scanWord at h
  refine g_aload_n C dX7_scanWord_0 rfl 0 rfl 1 rfl ?_
  refine wgX7_26_3 C dX7_scanWord_1 4 rfl ?_
  obtain ⟨x1_1, ex1_1, h⟩ := o_lt h
  refine g_istore_n C (lv' := [(1, .int x1_1), (0, .ref (ad 3))]) ex1_1 dX7_scanWord_4 rfl (by decide) rfl 5 rfl ?_
  exact g_sub C [1, 0] rfl (kX7_scanWord_L5 C hr (fun x1_14 σ_15 h => by
      refine g_aload_n C dX7_scanWord_90 rfl 0 rfl 91 rfl ?_
      refine wgX7_26_3 C dX7_scanWord_91 94 rfl ?_
      refine g_iload_n C dX7_scanWord_94 rfl 1 rfl 95 rfl ?_
      refine g_isub C dX7_scanWord_95 96 rfl ?_
      refine g_bipush C (v := 8) dX7_scanWord_96 (by decide) 98 rfl ?_
      refine g_icmp_le C 107 dX7_scanWord_98 (by decide) 101 rfl (fun c_16 => ?_) (fun c_16 => ?_)
      · have h := o_pos h c_16
        refine g_aload_n C dX7_scanWord_107 rfl 0 rfl 108 rfl ?_
        refine wgX7_37_3 C dX7_scanWord_108 111 rfl ?_
        obtain ⟨q_17, hq_17, h⟩ := o_bind h
        refine wcX7_69_X C (kX7_kindOfWord hq_17) (by decide) (Nat.le_of_ble_eq_true rfl) dX7_scanWord_111 114 rfl ?_
        exact g_iret C hr dX7_scanWord_114 h
      · have h := o_neg h c_16
        refine g_sipush C (v := 259) dX7_scanWord_101 (by decide) 104 rfl ?_
        refine g_goto C 114 dX7_scanWord_104 (by decide) ?_
        exact g_iret C hr dX7_scanWord_114 h) n x1_1 σ h)
end WK
/-! X7_scanToken private int scanToken(); -/
def fX7_scanToken (n : Nat)  (σ : ST) : Option (Int32 × ST) :=
  (lt (sL σ 0 ((0 : Int64))) (fun σ_1 => (Option.bind (fX6_byteAt (gI σ_1 1) σ_1) (fun q_2 => (lt (q_2.1) (fun x1_3 => (if x1_3 = ((-1 : Int32)) then (some ((258 : Int32), q_2.2)) else (Option.bind (fX7_isLetter x1_3 q_2.2) (fun q_5 => (if q_5.1 = 0 then (Option.bind (fX7_isDigit x1_3 q_5.2) (fun q_7 => (if q_7.1 = 0 then (lt (sI q_7.2 1 ((gI q_7.2 1) + ((1 : Int32)))) (fun σ_9 => (Option.bind (fX7_isSign x1_3 σ_9) (fun q_10 => (if q_10.1 = 0 then (some ((259 : Int32), q_10.2)) else (some (x1_3, q_10.2))))))) else (Option.bind (fX7_scanNumber n q_7.2) (fun q_12 => (some (q_12.1, q_12.2))))))) else (Option.bind (fX7_scanWord n q_5.2) (fun q_13 => (some (q_13.1, q_13.2))))))))))))))
section WK
variable {p : Program} {l : Launch} {e : Env} {R : Room} {s : State} {m : MethodId} {args : Array Value} {below : List Frame} {meth : Method} {c : Code} {Q : State → Prop}
variable {D : va_G} {ad : Nat → Nat} {cI cJ cB cZ : ClassId} {A : Nat → Prop} {cc : ByteArray} {nL lev : Nat}
variable {σ : ST} {pc : Nat} {lv : List (Nat × Value)} {st : List Value}
set_option maxHeartbeats 4000000 in
set_option maxRecDepth 100000 in
theorem kX7_scanToken {l : Launch} {D : va_G} {ad : Nat → Nat} {cI cJ cB cZ : ClassId}  {n : Nat}  {σ : ST} {res : Int32 × ST} (h : fX7_scanToken n σ = some res) : CMi l D (tyz cI cJ cB cZ) (wX ad cI cJ cB cZ) 3 yX7_scanToken cX7_scanToken 2 (some .int) [.ref (ad 3)] σ res := by
  refine cmi_body (own := RX7) (lv := [(0, .ref (ad 3))]) (by decide) rfl (wX_addr _ _ _ _ _) (Nat.le_of_ble_eq_true rfl) rfl (fun p e s m args below meth c A C hr => ?_)
  unfold fX7_scanToken at h
  refine g_aload_n C dX7_scanToken_0 rfl 0 rfl 1 rfl ?_
  refine g_lconst C (v := 0) dX7_scanToken_1 (by decide) 2 rfl ?_
  obtain ⟨σ_1, eσ_1, h⟩ := o_lt h
  refine wpX7_37_3 C eσ_1 dX7_scanToken_2 5 rfl ?_
  refine g_aload_n C dX7_scanToken_5 rfl 0 rfl 6 rfl ?_
  refine wgX7_22_3 C dX7_scanToken_6 9 rfl ?_
  refine g_aload_n C dX7_scanToken_9 rfl 0 rfl 10 rfl ?_
  refine wgX7_26_3 C dX7_scanToken_10 13 rfl ?_
  obtain ⟨q_2, hq_2, h⟩ := o_bind h
  refine wcX7_46_X_1 C (kX6_byteAt hq_2) (by decide) (Nat.le_of_ble_eq_true rfl) dX7_scanToken_13 16 rfl ?_
  obtain ⟨x1_3, ex1_3, h⟩ := o_lt h
  refine g_istore_n C (lv' := [(1, .int x1_3), (0, .ref (ad 3))]) ex1_3 dX7_scanToken_16 rfl (by decide) rfl 17 rfl ?_
  refine g_iload_n C dX7_scanToken_17 rfl 0 rfl 18 rfl ?_
  refine g_iconst C (v := -1) dX7_scanToken_18 (by decide) 19 rfl ?_
  refine g_icmp_ne C 26 dX7_scanToken_19 (by decide) 22 rfl (fun c_4 => ?_) (fun c_4 => ?_)
  · have h := o_neg h c_4
    refine g_iload_n C dX7_scanToken_26 rfl 0 rfl 27 rfl ?_
    obtain ⟨q_5, hq_5, h⟩ := o_bind h
    refine wcX7_54_X C (kX7_isLetter hq_5) (by decide) (Nat.le_of_ble_eq_true rfl) dX7_scanToken_27 30 rfl ?_
    refine g_if_eq C 38 dX7_scanToken_30 (by decide) 33 rfl (fun c_6 => ?_) (fun c_6 => ?_)
    · have h := o_pos h c_6
      refine g_iload_n C dX7_scanToken_38 rfl 0 rfl 39 rfl ?_
      obtain ⟨q_7, hq_7, h⟩ := o_bind h
      refine wcX7_60_X C (kX7_isDigit hq_7) (by decide) (Nat.le_of_ble_eq_true rfl) dX7_scanToken_39 42 rfl ?_
      refine g_if_eq C 50 dX7_scanToken_42 (by decide) 45 rfl (fun c_8 => ?_) (fun c_8 => ?_)
      · have h := o_pos h c_8
        refine g_aload_n C dX7_scanToken_50 rfl 1 rfl 51 rfl ?_
        refine g_dup C dX7_scanToken_51 rfl 52 rfl ?_
        refine wgX7_26_3 C dX7_scanToken_52 55 rfl ?_
        refine g_iconst C (v := 1) dX7_scanToken_55 (by decide) 56 rfl ?_
        refine g_iadd C dX7_scanToken_56 57 rfl ?_
        obtain ⟨σ_9, eσ_9, h⟩ := o_lt h
        refine wpX7_26_3 C eσ_9 dX7_scanToken_57 60 rfl ?_
        refine g_iload_n C dX7_scanToken_60 rfl 0 rfl 61 rfl ?_
        obtain ⟨q_10, hq_10, h⟩ := o_bind h
        refine wcX7_66_X C (kX7_isSign hq_10) (by decide) (Nat.le_of_ble_eq_true rfl) dX7_scanToken_61 64 rfl ?_
        refine g_if_eq C 71 dX7_scanToken_64 (by decide) 67 rfl (fun c_11 => ?_) (fun c_11 => ?_)
        · have h := o_pos h c_11
          refine g_sipush C (v := 259) dX7_scanToken_71 (by decide) 74 rfl ?_
          exact g_iret C hr dX7_scanToken_74 h
        · have h := o_neg h c_11
          refine g_iload_n C dX7_scanToken_67 rfl 0 rfl 68 rfl ?_
          refine g_goto C 74 dX7_scanToken_68 (by decide) ?_
          exact g_iret C hr dX7_scanToken_74 h
      · have h := o_neg h c_8
        refine g_aload_n C dX7_scanToken_45 rfl 1 rfl 46 rfl ?_
        obtain ⟨q_12, hq_12, h⟩ := o_bind h
        refine wcX7_63_X_3 C (kX7_scanNumber hq_12) (by decide) (Nat.le_of_ble_eq_true rfl) dX7_scanToken_46 49 rfl ?_
        exact g_iret C hr dX7_scanToken_49 h
    · have h := o_neg h c_6
      refine g_aload_n C dX7_scanToken_33 rfl 1 rfl 34 rfl ?_
      obtain ⟨q_13, hq_13, h⟩ := o_bind h
      refine wcX7_57_X_3 C (kX7_scanWord hq_13) (by decide) (Nat.le_of_ble_eq_true rfl) dX7_scanToken_34 37 rfl ?_
      exact g_iret C hr dX7_scanToken_37 h
  · have h := o_pos h c_4
    refine g_sipush C (v := 258) dX7_scanToken_22 (by decide) 25 rfl ?_
    exact g_iret C hr dX7_scanToken_25 h
end WK
/-! X7_scanTape void scanTape(); -/
def fX7_scanTape_L9  : Nat → Int32 → Int32 → ST → Option (ST)
  | 0, _, _, _ => none
  | n + 1, x1, x2, σ => (if ((400 : Int32)) < x2 then (some σ) else (if x1 = 0 then (some σ) else (Option.bind (fX7_skipBlanks n σ) (fun q_6 => (if ix x2 401 then (lt (stA q_6 5 x2 (gI q_6 1)) (fun σ_8 => (Option.bind (fX7_scanToken n σ_8) (fun q_9 => (if ix x2 401 then (lt (stA q_9.2 4 x2 q_9.1) (fun σ_11 => (if ix x2 401 then (lt (stB σ_11 6 x2 (gL σ_11 0)) (fun σ_13 => (if ix x2 401 then (if (ldA σ_13 4 x2) = ((258 : Int32)) then (lt ((0 : Int32)) (fun x1_16 => (lt (x2 + 1) (fun x2_17 => (fX7_scanTape_L9 n x1_16 x2_17 σ_13))))) else (if ix x2 401 then (if (ldA σ_13 4 x2) = ((259 : Int32)) then (lt ((0 : Int32)) (fun x1_20 => (lt (x2 + 1) (fun x2_21 => (fX7_scanTape_L9 n x1_20 x2_21 σ_13))))) else (lt ((1 : Int32)) (fun x1_22 => (lt (x2 + 1) (fun x2_23 => (fX7_scanTape_L9 n x1_22 x2_23 σ_13)))))) else none)) else none))) else none))) else none))))) else none)))))
def fX7_scanTape (n : Nat)  (σ : ST) : Option (ST) :=
  (lt (sI σ 1 ((0 : Int32))) (fun σ_1 => (lt ((1 : Int32)) (fun x1_2 => (lt ((0 : Int32)) (fun x2_3 => (fX7_scanTape_L9 n x1_2 x2_3 σ_1)))))))
section WK
variable {p : Program} {l : Launch} {e : Env} {R : Room} {s : State} {m : MethodId} {args : Array Value} {below : List Frame} {meth : Method} {c : Code} {Q : State → Prop}
variable {D : va_G} {ad : Nat → Nat} {cI cJ cB cZ : ClassId} {A : Nat → Prop} {cc : ByteArray} {nL lev : Nat}
variable {σ : ST} {pc : Nat} {lv : List (Nat × Value)} {st : List Value}
set_option maxHeartbeats 4000000 in
set_option maxRecDepth 100000 in
theorem kX7_scanTape_L9 (C : Ctx p l e (rmL 4) s m args below meth c D (tyz cI cJ cB cZ) (wX ad cI cJ cB cZ) A cX7_scanTape 3 4 RX7) (hr : meth.sig.returnType = none) {res : ST}   : ∀ (n : Nat) (x1 : Int32) (x2 : Int32) (σ : ST), fX7_scanTape_L9 n x1 x2 σ = some res → G p l e (rmL 4) s m args below meth c (MQ below (Qv D (tyz cI cJ cB cZ) (wX ad cI cJ cB cZ) A res) args s 0 0 A) D (wX ad cI cJ cB cZ) A 3 σ 9 [(0, .ref (ad 3)), (1, .int x1), (2, .int x2)] [] := by
  intro n
  induction n with
  | zero => intro x1 x2 σ h; have h : none = some res := h; cases h
  | succ n ih =>
    intro x1 x2 σ h
    rw [fX7_scanTape_L9] at h
    refine g_iload_n C dX7_scanTape_9 rfl 2 rfl 10 rfl ?_
    refine g_sipush C (v := 400) dX7_scanTape_10 (by decide) 13 rfl ?_
    refine g_icmp_gt C 90 dX7_scanTape_13 (by decide) 16 rfl (fun c_4 => ?_) (fun c_4 => ?_)
    · have h := o_pos h c_4
      exact g_vret C hr dX7_scanTape_90 h
    · have h := o_neg h c_4
      refine g_iload_n C dX7_scanTape_16 rfl 1 rfl 17 rfl ?_
      refine g_if_eq C 90 dX7_scanTape_17 (by decide) 20 rfl (fun c_5 => ?_) (fun c_5 => ?_)
      · have h := o_pos h c_5
        exact g_vret C hr dX7_scanTape_90 h
      · have h := o_neg h c_5
        refine g_aload_n C dX7_scanTape_20 rfl 0 rfl 21 rfl ?_
        obtain ⟨q_6, hq_6, h⟩ := o_bind h
        refine wcX7_30_X_3 C (kX7_skipBlanks hq_6) (by decide) (Nat.le_of_ble_eq_true rfl) dX7_scanTape_21 24 rfl ?_
        refine g_aload_n C dX7_scanTape_24 rfl 0 rfl 25 rfl ?_
        refine wgX7_15_3 C dX7_scanTape_25 28 rfl ?_
        refine g_iload_n C dX7_scanTape_28 rfl 2 rfl 29 rfl ?_
        refine g_aload_n C dX7_scanTape_29 rfl 0 rfl 30 rfl ?_
        refine wgX7_26_3 C dX7_scanTape_30 33 rfl ?_
        obtain ⟨c_7, h⟩ := o_chk h
        obtain ⟨σ_8, eσ_8, h⟩ := o_lt h
        refine wtX_5 C eσ_8 c_7 dX7_scanTape_33 34 rfl ?_
        refine g_aload_n C dX7_scanTape_34 rfl 0 rfl 35 rfl ?_
        refine wgX7_9_3 C dX7_scanTape_35 38 rfl ?_
        refine g_iload_n C dX7_scanTape_38 rfl 2 rfl 39 rfl ?_
        refine g_aload_n C dX7_scanTape_39 rfl 0 rfl 40 rfl ?_
        obtain ⟨q_9, hq_9, h⟩ := o_bind h
        refine wcX7_33_X_3 C (kX7_scanToken hq_9) (by decide) (Nat.le_of_ble_eq_true rfl) dX7_scanTape_40 43 rfl ?_
        obtain ⟨c_10, h⟩ := o_chk h
        obtain ⟨σ_11, eσ_11, h⟩ := o_lt h
        refine wtX_4 C eσ_11 c_10 dX7_scanTape_43 44 rfl ?_
        refine g_aload_n C dX7_scanTape_44 rfl 0 rfl 45 rfl ?_
        refine wgX7_18_3 C dX7_scanTape_45 48 rfl ?_
        refine g_iload_n C dX7_scanTape_48 rfl 2 rfl 49 rfl ?_
        refine g_aload_n C dX7_scanTape_49 rfl 0 rfl 50 rfl ?_
        refine wgX7_37_3 C dX7_scanTape_50 53 rfl ?_
        obtain ⟨c_12, h⟩ := o_chk h
        obtain ⟨σ_13, eσ_13, h⟩ := o_lt h
        refine wtX_6 C eσ_13 c_12 dX7_scanTape_53 54 rfl ?_
        refine g_aload_n C dX7_scanTape_54 rfl 0 rfl 55 rfl ?_
        refine wgX7_9_3 C dX7_scanTape_55 58 rfl ?_
        refine g_iload_n C dX7_scanTape_58 rfl 2 rfl 59 rfl ?_
        obtain ⟨c_14, h⟩ := o_chk h
        refine wlX_4 C c_14 dX7_scanTape_59 60 rfl ?_
        refine g_sipush C (v := 258) dX7_scanTape_60 (by decide) 63 rfl ?_
        refine g_icmp_eq C 82 dX7_scanTape_63 (by decide) 66 rfl (fun c_15 => ?_) (fun c_15 => ?_)
        · have h := o_pos h c_15
          refine g_iconst C (v := 0) dX7_scanTape_82 (by decide) 83 rfl ?_
          obtain ⟨x1_16, ex1_16, h⟩ := o_lt h
          refine g_istore_n C (lv' := [(1, .int x1_16), (0, .ref (ad 3)), (2, .int x2)]) ex1_16 dX7_scanTape_83 rfl (by decide) rfl 84 rfl ?_
          obtain ⟨x2_17, ex2_17, h⟩ := o_lt h
          refine g_iinc C (lv' := [(2, .int x2_17), (1, .int x1_16), (0, .ref (ad 3))]) ex2_17 dX7_scanTape_84 2 rfl (by decide) (by decide) rfl 87 rfl ?_
          refine g_goto C 9 dX7_scanTape_87 (by decide) ?_
          exact g_sub C [2, 1, 0] rfl (ih x1_16 x2_17 σ_13 h)
        · have h := o_neg h c_15
          refine g_aload_n C dX7_scanTape_66 rfl 0 rfl 67 rfl ?_
          refine wgX7_9_3 C dX7_scanTape_67 70 rfl ?_
          refine g_iload_n C dX7_scanTape_70 rfl 2 rfl 71 rfl ?_
          obtain ⟨c_18, h⟩ := o_chk h
          refine wlX_4 C c_18 dX7_scanTape_71 72 rfl ?_
          refine g_sipush C (v := 259) dX7_scanTape_72 (by decide) 75 rfl ?_
          refine g_icmp_eq C 82 dX7_scanTape_75 (by decide) 78 rfl (fun c_19 => ?_) (fun c_19 => ?_)
          · have h := o_pos h c_19
            refine g_iconst C (v := 0) dX7_scanTape_82 (by decide) 83 rfl ?_
            obtain ⟨x1_20, ex1_20, h⟩ := o_lt h
            refine g_istore_n C (lv' := [(1, .int x1_20), (0, .ref (ad 3)), (2, .int x2)]) ex1_20 dX7_scanTape_83 rfl (by decide) rfl 84 rfl ?_
            obtain ⟨x2_21, ex2_21, h⟩ := o_lt h
            refine g_iinc C (lv' := [(2, .int x2_21), (1, .int x1_20), (0, .ref (ad 3))]) ex2_21 dX7_scanTape_84 2 rfl (by decide) (by decide) rfl 87 rfl ?_
            refine g_goto C 9 dX7_scanTape_87 (by decide) ?_
            exact g_sub C [2, 1, 0] rfl (ih x1_20 x2_21 σ_13 h)
          · have h := o_neg h c_19
            refine g_iconst C (v := 1) dX7_scanTape_78 (by decide) 79 rfl ?_
            refine g_goto C 83 dX7_scanTape_79 (by decide) ?_
            obtain ⟨x1_22, ex1_22, h⟩ := o_lt h
            refine g_istore_n C (lv' := [(1, .int x1_22), (0, .ref (ad 3)), (2, .int x2)]) ex1_22 dX7_scanTape_83 rfl (by decide) rfl 84 rfl ?_
            obtain ⟨x2_23, ex2_23, h⟩ := o_lt h
            refine g_iinc C (lv' := [(2, .int x2_23), (1, .int x1_22), (0, .ref (ad 3))]) ex2_23 dX7_scanTape_84 2 rfl (by decide) (by decide) rfl 87 rfl ?_
            refine g_goto C 9 dX7_scanTape_87 (by decide) ?_
            exact g_sub C [2, 1, 0] rfl (ih x1_22 x2_23 σ_13 h)
set_option maxHeartbeats 4000000 in
set_option maxRecDepth 100000 in
theorem kX7_scanTape {l : Launch} {D : va_G} {ad : Nat → Nat} {cI cJ cB cZ : ClassId}  {n : Nat}  {σ : ST} {res : ST} (h : fX7_scanTape n σ = some res) : CMv l D (tyz cI cJ cB cZ) (wX ad cI cJ cB cZ) 4 yX7_scanTape cX7_scanTape 3 none [.ref (ad 3)] σ res := by
  refine cmv_body (own := RX7) (lv := [(0, .ref (ad 3))]) (by decide) rfl (wX_addr _ _ _ _ _) (Nat.le_of_ble_eq_true rfl) rfl (fun p e s m args below meth c A C hr => ?_)
  unfold fX7_scanTape at h
  refine g_aload_n C dX7_scanTape_0 rfl 0 rfl 1 rfl ?_
  refine g_iconst C (v := 0) dX7_scanTape_1 (by decide) 2 rfl ?_
  obtain ⟨σ_1, eσ_1, h⟩ := o_lt h
  refine wpX7_26_3 C eσ_1 dX7_scanTape_2 5 rfl ?_
  refine g_iconst C (v := 1) dX7_scanTape_5 (by decide) 6 rfl ?_
  obtain ⟨x1_2, ex1_2, h⟩ := o_lt h
  refine g_istore_n C (lv' := [(1, .int x1_2), (0, .ref (ad 3))]) ex1_2 dX7_scanTape_6 rfl (by decide) rfl 7 rfl ?_
  refine g_iconst C (v := 0) dX7_scanTape_7 (by decide) 8 rfl ?_
  obtain ⟨x2_3, ex2_3, h⟩ := o_lt h
  refine g_istore_n C (lv' := [(2, .int x2_3), (1, .int x1_2), (0, .ref (ad 3))]) ex2_3 dX7_scanTape_8 rfl (by decide) rfl 9 rfl ?_
  exact g_sub C [2, 1, 0] rfl (kX7_scanTape_L9 C hr  n x1_2 x2_3 σ_1 h)
end WK
/-! X4_clear void clear(); -/
def fX4_clear  (σ : ST) : Option (ST) :=
  (lt (sI σ 7 ((0 : Int32))) (fun σ_1 => (lt (sI σ_1 8 ((0 : Int32))) (fun σ_2 => (lt (sI σ_2 9 ((0 : Int32))) (fun σ_3 => (some σ_3)))))))
section WK
variable {p : Program} {l : Launch} {e : Env} {R : Room} {s : State} {m : MethodId} {args : Array Value} {below : List Frame} {meth : Method} {c : Code} {Q : State → Prop}
variable {D : va_G} {ad : Nat → Nat} {cI cJ cB cZ : ClassId} {A : Nat → Prop} {cc : ByteArray} {nL lev : Nat}
variable {σ : ST} {pc : Nat} {lv : List (Nat × Value)} {st : List Value}
set_option maxHeartbeats 4000000 in
set_option maxRecDepth 100000 in
theorem kX4_clear {l : Launch} {D : va_G} {ad : Nat → Nat} {cI cJ cB cZ : ClassId}   {σ : ST} {res : ST} (h : fX4_clear σ = some res) : CMv l D (tyz cI cJ cB cZ) (wX ad cI cJ cB cZ) 0 yX4_clear cX4_clear 1 none [.ref (ad 8)] σ res := by
  refine cmv_body (own := RX4) (lv := [(0, .ref (ad 8))]) (by decide) rfl (wX_addr _ _ _ _ _) (Nat.le_of_ble_eq_true rfl) rfl (fun p e s m args below meth c A C hr => ?_)
  unfold fX4_clear at h
  refine g_aload_n C dX4_clear_0 rfl 0 rfl 1 rfl ?_
  refine g_iconst C (v := 0) dX4_clear_1 (by decide) 2 rfl ?_
  obtain ⟨σ_1, eσ_1, h⟩ := o_lt h
  refine wpX4_9_8 C eσ_1 dX4_clear_2 5 rfl ?_
  refine g_aload_n C dX4_clear_5 rfl 0 rfl 6 rfl ?_
  refine g_iconst C (v := 0) dX4_clear_6 (by decide) 7 rfl ?_
  obtain ⟨σ_2, eσ_2, h⟩ := o_lt h
  refine wpX4_15_8 C eσ_2 dX4_clear_7 10 rfl ?_
  refine g_aload_n C dX4_clear_10 rfl 0 rfl 11 rfl ?_
  refine g_iconst C (v := 0) dX4_clear_11 (by decide) 12 rfl ?_
  obtain ⟨σ_3, eσ_3, h⟩ := o_lt h
  refine wpX4_50_8 C eσ_3 dX4_clear_12 15 rfl ?_
  exact g_vret C hr dX4_clear_15 h
end WK
/-! X2_peek private int peek(); -/
def fX2_peek  (σ : ST) : Option (Int32 × ST) :=
  (if (gI σ 2) = 0 then (if ix (gI σ 4) 401 then (some (ldA σ 4 (gI σ 4), σ)) else none) else (some ((259 : Int32), σ)))
section WK
variable {p : Program} {l : Launch} {e : Env} {R : Room} {s : State} {m : MethodId} {args : Array Value} {below : List Frame} {meth : Method} {c : Code} {Q : State → Prop}
variable {D : va_G} {ad : Nat → Nat} {cI cJ cB cZ : ClassId} {A : Nat → Prop} {cc : ByteArray} {nL lev : Nat}
variable {σ : ST} {pc : Nat} {lv : List (Nat × Value)} {st : List Value}
set_option maxHeartbeats 4000000 in
set_option maxRecDepth 100000 in
theorem kX2_peek {l : Launch} {D : va_G} {ad : Nat → Nat} {cI cJ cB cZ : ClassId}   {σ : ST} {res : Int32 × ST} (h : fX2_peek σ = some res) : CMi l D (tyz cI cJ cB cZ) (wX ad cI cJ cB cZ) 0 yX2_peek cX2_peek 1 (some .int) [.ref (ad 7)] σ res := by
  refine cmi_body (own := RX2) (lv := [(0, .ref (ad 7))]) (by decide) rfl (wX_addr _ _ _ _ _) (Nat.le_of_ble_eq_true rfl) rfl (fun p e s m args below meth c A C hr => ?_)
  unfold fX2_peek at h
  refine g_aload_n C dX2_peek_0 rfl 0 rfl 1 rfl ?_
  refine wgX2_9_7 C dX2_peek_1 4 rfl ?_
  refine g_if_ne C 22 dX2_peek_4 (by decide) 7 rfl (fun c_1 => ?_) (fun c_1 => ?_)
  · have h := o_neg h c_1
    refine g_sipush C (v := 259) dX2_peek_22 (by decide) 25 rfl ?_
    exact g_iret C hr dX2_peek_25 h
  · have h := o_pos h c_1
    refine g_aload_n C dX2_peek_7 rfl 0 rfl 8 rfl ?_
    refine wgX2_18_7 C dX2_peek_8 11 rfl ?_
    refine wgX2_138_3 C dX2_peek_11 14 rfl ?_
    refine g_aload_n C dX2_peek_14 rfl 0 rfl 15 rfl ?_
    refine wgX2_31_7 C dX2_peek_15 18 rfl ?_
    obtain ⟨c_2, h⟩ := o_chk h
    refine wlX_4 C c_2 dX2_peek_18 19 rfl ?_
    refine g_goto C 25 dX2_peek_19 (by decide) ?_
    exact g_iret C hr dX2_peek_25 h
end WK
