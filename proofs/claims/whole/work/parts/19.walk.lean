/-! X11_is private boolean is(int); -/
def fX11_is (x1 : Int32) (σ : ST) : Option (Int32 × ST) :=
  (if (gI σ 6) = 0 then (if ix (gI σ 4) 403 then (if (ldA σ 3 (gI σ 4)) = x1 then (some ((1 : Int32), σ)) else (some ((0 : Int32), σ))) else none) else (some ((0 : Int32), σ)))
section WK
variable {p : Program} {l : Launch} {e : Env} {R : Room} {s : State} {m : MethodId} {args : Array Value} {below : List Frame} {meth : Method} {c : Code} {Q : State → Prop}
variable {D : va_G} {ad : Nat → Nat} {cI cJ cB cZ : ClassId} {A : Nat → Prop} {cc : ByteArray} {nL lev : Nat}
variable {σ : ST} {pc : Nat} {lv : List (Nat × Value)} {st : List Value}
set_option maxHeartbeats 4000000 in
set_option maxRecDepth 100000 in
theorem kX11_is {l : Launch} {D : va_G} {ad : Nat → Nat} {cI cJ cB cZ : ClassId}  {x1 : Int32} {σ : ST} {res : Int32 × ST} (h : fX11_is x1 σ = some res) : CMi l D (tyz cI cJ cB cZ) (wM ad cI cJ cB cZ) 0 yX11_is cX11_is 2 (some .boolean) [.ref (ad 0), .int x1] σ res := by
  refine cmi_body (own := RX11) (lv := [(0, .ref (ad 0)), (1, .int x1)]) (by decide) rfl (wM_addr _ _ _ _ _) (Nat.le_of_ble_eq_true rfl) rfl (fun p e s m args below meth c A C hr => ?_)
  unfold fX11_is at h
  refine g_aload_n C dX11_is_0 rfl 0 rfl 1 rfl ?_
  refine wgX11_204_0 C dX11_is_1 4 rfl ?_
  refine g_if_ne C 24 dX11_is_4 (by decide) 7 rfl (fun c_1 => ?_) (fun c_1 => ?_)
  · have h := o_neg h c_1
    refine g_iconst C (v := 0) dX11_is_24 (by decide) 25 rfl ?_
    exact g_zret C hr (by decide) dX11_is_25 h
  · have h := o_pos h c_1
    refine g_aload_n C dX11_is_7 rfl 0 rfl 8 rfl ?_
    refine wgX11_20_0 C dX11_is_8 11 rfl ?_
    refine g_aload_n C dX11_is_11 rfl 0 rfl 12 rfl ?_
    refine wgX11_207_0 C dX11_is_12 15 rfl ?_
    obtain ⟨c_2, h⟩ := o_chk h
    refine wlM_3 C c_2 dX11_is_15 16 rfl ?_
    refine g_iload_n C dX11_is_16 rfl 1 rfl 17 rfl ?_
    refine g_icmp_ne C 24 dX11_is_17 (by decide) 20 rfl (fun c_3 => ?_) (fun c_3 => ?_)
    · have h := o_neg h c_3
      refine g_iconst C (v := 0) dX11_is_24 (by decide) 25 rfl ?_
      exact g_zret C hr (by decide) dX11_is_25 h
    · have h := o_pos h c_3
      refine g_iconst C (v := 1) dX11_is_20 (by decide) 21 rfl ?_
      refine g_goto C 25 dX11_is_21 (by decide) ?_
      exact g_zret C hr (by decide) dX11_is_25 h
end WK
/-! X11_fail private void fail(int); -/
def fX11_fail (x1 : Int32) (σ : ST) : Option (ST) :=
  (if (gI σ 6) ≤ 0 then (lt (sI σ 6 x1) (fun σ_2 => (if ix (gI σ_2 4) 403 then (lt (sI σ_2 7 (ldA σ_2 4 (gI σ_2 4))) (fun σ_4 => (some σ_4))) else none))) else (some σ))
section WK
variable {p : Program} {l : Launch} {e : Env} {R : Room} {s : State} {m : MethodId} {args : Array Value} {below : List Frame} {meth : Method} {c : Code} {Q : State → Prop}
variable {D : va_G} {ad : Nat → Nat} {cI cJ cB cZ : ClassId} {A : Nat → Prop} {cc : ByteArray} {nL lev : Nat}
variable {σ : ST} {pc : Nat} {lv : List (Nat × Value)} {st : List Value}
set_option maxHeartbeats 4000000 in
set_option maxRecDepth 100000 in
theorem kX11_fail {l : Launch} {D : va_G} {ad : Nat → Nat} {cI cJ cB cZ : ClassId}  {x1 : Int32} {σ : ST} {res : ST} (h : fX11_fail x1 σ = some res) : CMv l D (tyz cI cJ cB cZ) (wM ad cI cJ cB cZ) 0 yX11_fail cX11_fail 2 none [.ref (ad 0), .int x1] σ res := by
  refine cmv_body (own := RX11) (lv := [(0, .ref (ad 0)), (1, .int x1)]) (by decide) rfl (wM_addr _ _ _ _ _) (Nat.le_of_ble_eq_true rfl) rfl (fun p e s m args below meth c A C hr => ?_)
  unfold fX11_fail at h
  refine g_aload_n C dX11_fail_0 rfl 0 rfl 1 rfl ?_
  refine wgX11_204_0 C dX11_fail_1 4 rfl ?_
  refine g_if_le C 8 dX11_fail_4 (by decide) 7 rfl (fun c_1 => ?_) (fun c_1 => ?_)
  · have h := o_pos h c_1
    refine g_aload_n C dX11_fail_8 rfl 0 rfl 9 rfl ?_
    refine g_iload_n C dX11_fail_9 rfl 1 rfl 10 rfl ?_
    obtain ⟨σ_2, eσ_2, h⟩ := o_lt h
    refine wpX11_204_0 C eσ_2 dX11_fail_10 13 rfl ?_
    refine g_aload_n C dX11_fail_13 rfl 0 rfl 14 rfl ?_
    refine g_aload_n C dX11_fail_14 rfl 0 rfl 15 rfl ?_
    refine wgX11_24_0 C dX11_fail_15 18 rfl ?_
    refine g_aload_n C dX11_fail_18 rfl 0 rfl 19 rfl ?_
    refine wgX11_207_0 C dX11_fail_19 22 rfl ?_
    obtain ⟨c_3, h⟩ := o_chk h
    refine wlM_4 C c_3 dX11_fail_22 23 rfl ?_
    obtain ⟨σ_4, eσ_4, h⟩ := o_lt h
    refine wpX11_210_0 C eσ_4 dX11_fail_23 26 rfl ?_
    exact g_vret C hr dX11_fail_26 h
  · have h := o_neg h c_1
    exact g_vret C hr dX11_fail_7 h
end WK
/-! X11_next private void next(); -/
def fX11_next  (σ : ST) : Option (ST) :=
  (if (gI σ 4) = ((400 : Int32)) then (Option.bind (fX11_fail ((2 : Int32)) σ) (fun q_3 => (some q_3))) else (lt (sI σ 4 ((gI σ 4) + ((1 : Int32)))) (fun σ_2 => (some σ_2))))
section WK
variable {p : Program} {l : Launch} {e : Env} {R : Room} {s : State} {m : MethodId} {args : Array Value} {below : List Frame} {meth : Method} {c : Code} {Q : State → Prop}
variable {D : va_G} {ad : Nat → Nat} {cI cJ cB cZ : ClassId} {A : Nat → Prop} {cc : ByteArray} {nL lev : Nat}
variable {σ : ST} {pc : Nat} {lv : List (Nat × Value)} {st : List Value}
set_option maxHeartbeats 4000000 in
set_option maxRecDepth 100000 in
theorem kX11_next {l : Launch} {D : va_G} {ad : Nat → Nat} {cI cJ cB cZ : ClassId}   {σ : ST} {res : ST} (h : fX11_next σ = some res) : CMv l D (tyz cI cJ cB cZ) (wM ad cI cJ cB cZ) 1 yX11_next cX11_next 1 none [.ref (ad 0)] σ res := by
  refine cmv_body (own := RX11) (lv := [(0, .ref (ad 0))]) (by decide) rfl (wM_addr _ _ _ _ _) (Nat.le_of_ble_eq_true rfl) rfl (fun p e s m args below meth c A C hr => ?_)
  unfold fX11_next at h
  refine g_aload_n C dX11_next_0 rfl 0 rfl 1 rfl ?_
  refine wgX11_207_0 C dX11_next_1 4 rfl ?_
  refine g_sipush C (v := 400) dX11_next_4 (by decide) 7 rfl ?_
  refine g_icmp_ne C 18 dX11_next_7 (by decide) 10 rfl (fun c_1 => ?_) (fun c_1 => ?_)
  · have h := o_neg h c_1
    refine g_aload_n C dX11_next_18 rfl 0 rfl 19 rfl ?_
    refine g_dup C dX11_next_19 rfl 20 rfl ?_
    refine wgX11_207_0 C dX11_next_20 23 rfl ?_
    refine g_iconst C (v := 1) dX11_next_23 (by decide) 24 rfl ?_
    refine g_iadd C dX11_next_24 25 rfl ?_
    obtain ⟨σ_2, eσ_2, h⟩ := o_lt h
    refine wpX11_207_0 C eσ_2 dX11_next_25 28 rfl ?_
    exact g_vret C hr dX11_next_28 h
  · have h := o_pos h c_1
    refine g_aload_n C dX11_next_10 rfl 0 rfl 11 rfl ?_
    refine g_iconst C (v := 2) dX11_next_11 (by decide) 12 rfl ?_
    obtain ⟨q_3, hq_3, h⟩ := o_bind h
    refine wcX11_219_M_0 C (kX11_fail hq_3) (by decide) (Nat.le_of_ble_eq_true rfl) dX11_next_12 15 rfl ?_
    refine g_goto C 28 dX11_next_15 (by decide) ?_
    exact g_vret C hr dX11_next_28 h
end WK
/-! X11_must private void must(int); -/
def fX11_must (x1 : Int32) (σ : ST) : Option (ST) :=
  (Option.bind (fX11_is x1 σ) (fun q_1 => (if q_1.1 = 0 then (Option.bind (fX11_fail ((1 : Int32)) q_1.2) (fun q_3 => (some q_3))) else (Option.bind (fX11_next q_1.2) (fun q_4 => (some q_4))))))
section WK
variable {p : Program} {l : Launch} {e : Env} {R : Room} {s : State} {m : MethodId} {args : Array Value} {below : List Frame} {meth : Method} {c : Code} {Q : State → Prop}
variable {D : va_G} {ad : Nat → Nat} {cI cJ cB cZ : ClassId} {A : Nat → Prop} {cc : ByteArray} {nL lev : Nat}
variable {σ : ST} {pc : Nat} {lv : List (Nat × Value)} {st : List Value}
set_option maxHeartbeats 4000000 in
set_option maxRecDepth 100000 in
theorem kX11_must {l : Launch} {D : va_G} {ad : Nat → Nat} {cI cJ cB cZ : ClassId}  {x1 : Int32} {σ : ST} {res : ST} (h : fX11_must x1 σ = some res) : CMv l D (tyz cI cJ cB cZ) (wM ad cI cJ cB cZ) 2 yX11_must cX11_must 2 none [.ref (ad 0), .int x1] σ res := by
  refine cmv_body (own := RX11) (lv := [(0, .ref (ad 0)), (1, .int x1)]) (by decide) rfl (wM_addr _ _ _ _ _) (Nat.le_of_ble_eq_true rfl) rfl (fun p e s m args below meth c A C hr => ?_)
  unfold fX11_must at h
  refine g_aload_n C dX11_must_0 rfl 0 rfl 1 rfl ?_
  refine g_iload_n C dX11_must_1 rfl 1 rfl 2 rfl ?_
  obtain ⟨q_1, hq_1, h⟩ := o_bind h
  refine wcX11_222_M_0 C (kX11_is hq_1) (by decide) (Nat.le_of_ble_eq_true rfl) dX11_must_2 5 rfl ?_
  refine g_if_eq C 15 dX11_must_5 (by decide) 8 rfl (fun c_2 => ?_) (fun c_2 => ?_)
  · have h := o_pos h c_2
    refine g_aload_n C dX11_must_15 rfl 0 rfl 16 rfl ?_
    refine g_iconst C (v := 1) dX11_must_16 (by decide) 17 rfl ?_
    obtain ⟨q_3, hq_3, h⟩ := o_bind h
    refine wcX11_219_M_0 C (kX11_fail hq_3) (by decide) (Nat.le_of_ble_eq_true rfl) dX11_must_17 20 rfl ?_
    exact g_vret C hr dX11_must_20 h
  · have h := o_neg h c_2
    refine g_aload_n C dX11_must_8 rfl 0 rfl 9 rfl ?_
    obtain ⟨q_4, hq_4, h⟩ := o_bind h
    refine wcX11_225_M_0 C (kX11_next hq_4) (by decide) (Nat.le_of_ble_eq_true rfl) dX11_must_9 12 rfl ?_
    refine g_goto C 20 dX11_must_12 (by decide) ?_
    exact g_vret C hr dX11_must_20 h
end WK
/-! X11_wrong private void wrong(int, int); -/
def fX11_wrong (x1 : Int32) (x2 : Int32) (σ : ST) : Option (ST) :=
  (if ix x2 403 then (lt (ldA σ 4 x2) (fun x3_2 => (if 0 < (gI σ 6) then (some σ) else (if (gI σ 8) = 0 then (lt (sI σ 8 x1) (fun σ_5 => (lt (sI σ_5 9 x3_2) (fun σ_6 => (some σ_6))))) else (if (gI σ 9) < x3_2 then (some σ) else (if x3_2 = (gI σ 9) then (if x1 < (gI σ 8) then (lt (sI σ 8 x1) (fun σ_12 => (lt (sI σ_12 9 x3_2) (fun σ_13 => (some σ_13))))) else (some σ)) else (lt (sI σ 8 x1) (fun σ_9 => (lt (sI σ_9 9 x3_2) (fun σ_10 => (some σ_10))))))))))) else none)
section WK
variable {p : Program} {l : Launch} {e : Env} {R : Room} {s : State} {m : MethodId} {args : Array Value} {below : List Frame} {meth : Method} {c : Code} {Q : State → Prop}
variable {D : va_G} {ad : Nat → Nat} {cI cJ cB cZ : ClassId} {A : Nat → Prop} {cc : ByteArray} {nL lev : Nat}
variable {σ : ST} {pc : Nat} {lv : List (Nat × Value)} {st : List Value}
set_option maxHeartbeats 4000000 in
set_option maxRecDepth 100000 in
theorem kX11_wrong {l : Launch} {D : va_G} {ad : Nat → Nat} {cI cJ cB cZ : ClassId}  {x1 : Int32} {x2 : Int32} {σ : ST} {res : ST} (h : fX11_wrong x1 x2 σ = some res) : CMv l D (tyz cI cJ cB cZ) (wM ad cI cJ cB cZ) 0 yX11_wrong cX11_wrong 4 none [.ref (ad 0), .int x1, .int x2] σ res := by
  refine cmv_body (own := RX11) (lv := [(0, .ref (ad 0)), (1, .int x1), (2, .int x2)]) (by decide) rfl (wM_addr _ _ _ _ _) (Nat.le_of_ble_eq_true rfl) rfl (fun p e s m args below meth c A C hr => ?_)
  unfold fX11_wrong at h
  refine g_aload_n C dX11_wrong_0 rfl 0 rfl 1 rfl ?_
  refine wgX11_24_0 C dX11_wrong_1 4 rfl ?_
  refine g_iload_n C dX11_wrong_4 rfl 2 rfl 5 rfl ?_
  obtain ⟨c_1, h⟩ := o_chk h
  refine wlM_4 C c_1 dX11_wrong_5 6 rfl ?_
  obtain ⟨x3_2, ex3_2, h⟩ := o_lt h
  refine g_istore_n C (lv' := [(3, .int x3_2), (0, .ref (ad 0)), (1, .int x1), (2, .int x2)]) ex3_2 dX11_wrong_6 rfl (by decide) rfl 7 rfl ?_
  refine g_aload_n C dX11_wrong_7 rfl 1 rfl 8 rfl ?_
  refine wgX11_204_0 C dX11_wrong_8 11 rfl ?_
  refine g_if_gt C 45 dX11_wrong_11 (by decide) 14 rfl (fun c_3 => ?_) (fun c_3 => ?_)
  · have h := o_pos h c_3
    exact g_vret C hr dX11_wrong_45 h
  · have h := o_neg h c_3
    refine g_aload_n C dX11_wrong_14 rfl 1 rfl 15 rfl ?_
    refine wgX11_213_0 C dX11_wrong_15 18 rfl ?_
    refine g_if_eq C 46 dX11_wrong_18 (by decide) 21 rfl (fun c_4 => ?_) (fun c_4 => ?_)
    · have h := o_pos h c_4
      refine g_aload_n C dX11_wrong_46 rfl 1 rfl 47 rfl ?_
      refine g_iload_n C dX11_wrong_47 rfl 2 rfl 48 rfl ?_
      obtain ⟨σ_5, eσ_5, h⟩ := o_lt h
      refine wpX11_213_0 C eσ_5 dX11_wrong_48 51 rfl ?_
      refine g_aload_n C dX11_wrong_51 rfl 1 rfl 52 rfl ?_
      refine g_iload_n C dX11_wrong_52 rfl 0 rfl 53 rfl ?_
      obtain ⟨σ_6, eσ_6, h⟩ := o_lt h
      refine wpX11_216_0 C eσ_6 dX11_wrong_53 56 rfl ?_
      exact g_vret C hr dX11_wrong_56 h
    · have h := o_neg h c_4
      refine g_iload_n C dX11_wrong_21 rfl 0 rfl 22 rfl ?_
      refine g_aload_n C dX11_wrong_22 rfl 1 rfl 23 rfl ?_
      refine wgX11_216_0 C dX11_wrong_23 26 rfl ?_
      refine g_icmp_gt C 45 dX11_wrong_26 (by decide) 29 rfl (fun c_7 => ?_) (fun c_7 => ?_)
      · have h := o_pos h c_7
        exact g_vret C hr dX11_wrong_45 h
      · have h := o_neg h c_7
        refine g_iload_n C dX11_wrong_29 rfl 0 rfl 30 rfl ?_
        refine g_aload_n C dX11_wrong_30 rfl 1 rfl 31 rfl ?_
        refine wgX11_216_0 C dX11_wrong_31 34 rfl ?_
        refine g_icmp_ne C 46 dX11_wrong_34 (by decide) 37 rfl (fun c_8 => ?_) (fun c_8 => ?_)
        · have h := o_neg h c_8
          refine g_aload_n C dX11_wrong_46 rfl 1 rfl 47 rfl ?_
          refine g_iload_n C dX11_wrong_47 rfl 2 rfl 48 rfl ?_
          obtain ⟨σ_9, eσ_9, h⟩ := o_lt h
          refine wpX11_213_0 C eσ_9 dX11_wrong_48 51 rfl ?_
          refine g_aload_n C dX11_wrong_51 rfl 1 rfl 52 rfl ?_
          refine g_iload_n C dX11_wrong_52 rfl 0 rfl 53 rfl ?_
          obtain ⟨σ_10, eσ_10, h⟩ := o_lt h
          refine wpX11_216_0 C eσ_10 dX11_wrong_53 56 rfl ?_
          exact g_vret C hr dX11_wrong_56 h
        · have h := o_pos h c_8
          refine g_iload_n C dX11_wrong_37 rfl 2 rfl 38 rfl ?_
          refine g_aload_n C dX11_wrong_38 rfl 1 rfl 39 rfl ?_
          refine wgX11_213_0 C dX11_wrong_39 42 rfl ?_
          refine g_icmp_lt C 46 dX11_wrong_42 (by decide) 45 rfl (fun c_11 => ?_) (fun c_11 => ?_)
          · have h := o_pos h c_11
            refine g_aload_n C dX11_wrong_46 rfl 1 rfl 47 rfl ?_
            refine g_iload_n C dX11_wrong_47 rfl 2 rfl 48 rfl ?_
            obtain ⟨σ_12, eσ_12, h⟩ := o_lt h
            refine wpX11_213_0 C eσ_12 dX11_wrong_48 51 rfl ?_
            refine g_aload_n C dX11_wrong_51 rfl 1 rfl 52 rfl ?_
            refine g_iload_n C dX11_wrong_52 rfl 0 rfl 53 rfl ?_
            obtain ⟨σ_13, eσ_13, h⟩ := o_lt h
            refine wpX11_216_0 C eσ_13 dX11_wrong_53 56 rfl ?_
            exact g_vret C hr dX11_wrong_56 h
          · have h := o_neg h c_11
            exact g_vret C hr dX11_wrong_45 h
end WK
/-! X11_inRange private int inRange(int, int); -/
def fX11_inRange (x1 : Int32) (x2 : Int32) (σ : ST) : Option (Int32 × ST) :=
  (lt (gI σ 4) (fun x3_1 => (Option.bind (fX11_must ((2 : Int32)) σ) (fun q_2 => (if (gI q_2 6) ≤ 0 then (if ix x3_1 403 then (lt (fun (x3_5 : Int32) (σ_6 : ST) => (Option.bind (fX11_wrong ((5 : Int32)) x3_5 σ_6) (fun q_7 => (if ix x3_5 403 then (some (ldA q_7 5 x3_5, q_7)) else none)))) (fun j39 => (if (ldA q_2 5 x3_1) < x1 then (j39 x3_1 q_2) else (if ix x3_1 403 then (if (ldA q_2 5 x3_1) ≤ x2 then (if ix x3_1 403 then (some (ldA q_2 5 x3_1, q_2)) else none) else (j39 x3_1 q_2)) else none)))) else none) else (some ((0 : Int32), q_2)))))))
section WK
variable {p : Program} {l : Launch} {e : Env} {R : Room} {s : State} {m : MethodId} {args : Array Value} {below : List Frame} {meth : Method} {c : Code} {Q : State → Prop}
variable {D : va_G} {ad : Nat → Nat} {cI cJ cB cZ : ClassId} {A : Nat → Prop} {cc : ByteArray} {nL lev : Nat}
variable {σ : ST} {pc : Nat} {lv : List (Nat × Value)} {st : List Value}
set_option maxHeartbeats 4000000 in
set_option maxRecDepth 100000 in
theorem kX11_inRange {l : Launch} {D : va_G} {ad : Nat → Nat} {cI cJ cB cZ : ClassId}  {x1 : Int32} {x2 : Int32} {σ : ST} {res : Int32 × ST} (h : fX11_inRange x1 x2 σ = some res) : CMi l D (tyz cI cJ cB cZ) (wM ad cI cJ cB cZ) 3 yX11_inRange cX11_inRange 4 (some .int) [.ref (ad 0), .int x1, .int x2] σ res := by
  refine cmi_body (own := RX11) (lv := [(0, .ref (ad 0)), (1, .int x1), (2, .int x2)]) (by decide) rfl (wM_addr _ _ _ _ _) (Nat.le_of_ble_eq_true rfl) rfl (fun p e s m args below meth c A C hr => ?_)
  unfold fX11_inRange at h
  refine g_aload_n C dX11_inRange_0 rfl 0 rfl 1 rfl ?_
  refine wgX11_207_0 C dX11_inRange_1 4 rfl ?_
  obtain ⟨x3_1, ex3_1, h⟩ := o_lt h
  refine g_istore_n C (lv' := [(3, .int x3_1), (0, .ref (ad 0)), (1, .int x1), (2, .int x2)]) ex3_1 dX11_inRange_4 rfl (by decide) rfl 5 rfl ?_
  refine g_aload_n C dX11_inRange_5 rfl 1 rfl 6 rfl ?_
  refine g_iconst C (v := 2) dX11_inRange_6 (by decide) 7 rfl ?_
  obtain ⟨q_2, hq_2, h⟩ := o_bind h
  refine wcX11_246_M_0 C (kX11_must hq_2) (by decide) (Nat.le_of_ble_eq_true rfl) dX11_inRange_7 10 rfl ?_
  refine g_aload_n C dX11_inRange_10 rfl 1 rfl 11 rfl ?_
  refine wgX11_204_0 C dX11_inRange_11 14 rfl ?_
  refine g_if_le C 19 dX11_inRange_14 (by decide) 17 rfl (fun c_3 => ?_) (fun c_3 => ?_)
  · have h := o_pos h c_3
    refine g_aload_n C dX11_inRange_19 rfl 1 rfl 20 rfl ?_
    refine wgX11_27_0 C dX11_inRange_20 23 rfl ?_
    refine g_iload_n C dX11_inRange_23 rfl 0 rfl 24 rfl ?_
    obtain ⟨c_4, h⟩ := o_chk h
    refine wlM_5 C c_4 dX11_inRange_24 25 rfl ?_
    refine g_iload_n C dX11_inRange_25 rfl 2 rfl 26 rfl ?_
    obtain ⟨j39, ej39, h⟩ := o_lt h
    have hj39 : ∀ (x3_5 : Int32) (σ_6 : ST), j39 x3_5 σ_6 = some res → G p l e (rmL 3) s m args below meth c (MQ below (Qi D (tyz cI cJ cB cZ) (wM ad cI cJ cB cZ) A res) args s 0 0 A) D (wM ad cI cJ cB cZ) A 4 σ_6 39 [(0, .ref (ad 0)), (3, .int x3_5)] [] := by
      intro x3_5 σ_6 h
      rw [ej39] at h
      refine g_aload_n C dX11_inRange_39 rfl 0 rfl 40 rfl ?_
      refine g_iconst C (v := 5) dX11_inRange_40 (by decide) 41 rfl ?_
      refine g_iload_n C dX11_inRange_41 rfl 1 rfl 42 rfl ?_
      obtain ⟨q_7, hq_7, h⟩ := o_bind h
      refine wcX11_249_M_0 C (kX11_wrong hq_7) (by decide) (Nat.le_of_ble_eq_true rfl) dX11_inRange_42 45 rfl ?_
      refine g_aload_n C dX11_inRange_45 rfl 0 rfl 46 rfl ?_
      refine wgX11_27_0 C dX11_inRange_46 49 rfl ?_
      refine g_iload_n C dX11_inRange_49 rfl 1 rfl 50 rfl ?_
      obtain ⟨c_8, h⟩ := o_chk h
      refine wlM_5 C c_8 dX11_inRange_50 51 rfl ?_
      exact g_iret C hr dX11_inRange_51 h
    refine g_icmp_lt C 39 dX11_inRange_26 (by decide) 29 rfl (fun c_9 => ?_) (fun c_9 => ?_)
    · have h := o_pos h c_9
      exact g_sub C [1, 0] rfl (hj39 x3_1 q_2 h)
    · have h := o_neg h c_9
      refine g_aload_n C dX11_inRange_29 rfl 1 rfl 30 rfl ?_
      refine wgX11_27_0 C dX11_inRange_30 33 rfl ?_
      refine g_iload_n C dX11_inRange_33 rfl 0 rfl 34 rfl ?_
      obtain ⟨c_10, h⟩ := o_chk h
      refine wlM_5 C c_10 dX11_inRange_34 35 rfl ?_
      refine g_iload_n C dX11_inRange_35 rfl 3 rfl 36 rfl ?_
      refine g_icmp_le C 45 dX11_inRange_36 (by decide) 39 rfl (fun c_11 => ?_) (fun c_11 => ?_)
      · have h := o_pos h c_11
        refine g_aload_n C dX11_inRange_45 rfl 1 rfl 46 rfl ?_
        refine wgX11_27_0 C dX11_inRange_46 49 rfl ?_
        refine g_iload_n C dX11_inRange_49 rfl 0 rfl 50 rfl ?_
        obtain ⟨c_12, h⟩ := o_chk h
        refine wlM_5 C c_12 dX11_inRange_50 51 rfl ?_
        exact g_iret C hr dX11_inRange_51 h
      · have h := o_neg h c_11
        exact g_sub C [1, 0] rfl (hj39 x3_1 q_2 h)
  · have h := o_neg h c_3
    refine g_iconst C (v := 0) dX11_inRange_17 (by decide) 18 rfl ?_
    exact g_iret C hr dX11_inRange_18 h
end WK
/-! X11_opens private void opens(int); -/
def fX11_opens (x1 : Int32) (σ : ST) : Option (ST) :=
  (Option.bind (fX11_is ((7 : Int32)) σ) (fun q_1 => (lt (fun (x1_2 : Int32) (σ_3 : ST) => (if (gI σ_3 6) ≤ 0 then (lt (sI σ_3 5 ((gI σ_3 5) + ((1 : Int32)))) (fun σ_5 => (Option.bind (fX11_next σ_5) (fun q_6 => (if x1_2 = ((-1 : Int32)) then (some q_6) else (if ix (gI q_6 16) 64 then (lt (stA q_6 21 (gI q_6 16) x1_2) (fun σ_9 => (lt (sI σ_9 16 ((gI σ_9 16) + ((1 : Int32)))) (fun σ_10 => (some σ_10))))) else none)))))) else (some σ_3))) (fun j31 => (if q_1.1 = 0 then (Option.bind (fX11_fail ((1 : Int32)) q_1.2) (fun q_14 => (j31 x1 q_14))) else (if (gI q_1.2 5) = ((6 : Int32)) then (Option.bind (fX11_fail ((2 : Int32)) q_1.2) (fun q_13 => (j31 x1 q_13))) else (j31 x1 q_1.2)))))))
section WK
variable {p : Program} {l : Launch} {e : Env} {R : Room} {s : State} {m : MethodId} {args : Array Value} {below : List Frame} {meth : Method} {c : Code} {Q : State → Prop}
variable {D : va_G} {ad : Nat → Nat} {cI cJ cB cZ : ClassId} {A : Nat → Prop} {cc : ByteArray} {nL lev : Nat}
variable {σ : ST} {pc : Nat} {lv : List (Nat × Value)} {st : List Value}
set_option maxHeartbeats 4000000 in
set_option maxRecDepth 100000 in
theorem kX11_opens {l : Launch} {D : va_G} {ad : Nat → Nat} {cI cJ cB cZ : ClassId}  {x1 : Int32} {σ : ST} {res : ST} (h : fX11_opens x1 σ = some res) : CMv l D (tyz cI cJ cB cZ) (wM ad cI cJ cB cZ) 2 yX11_opens cX11_opens 2 none [.ref (ad 0), .int x1] σ res := by
  refine cmv_body (own := RX11) (lv := [(0, .ref (ad 0)), (1, .int x1)]) (by decide) rfl (wM_addr _ _ _ _ _) (Nat.le_of_ble_eq_true rfl) rfl (fun p e s m args below meth c A C hr => ?_)
  unfold fX11_opens at h
  refine g_aload_n C dX11_opens_0 rfl 0 rfl 1 rfl ?_
  refine g_bipush C (v := 7) dX11_opens_1 (by decide) 3 rfl ?_
  obtain ⟨q_1, hq_1, h⟩ := o_bind h
  refine wcX11_222_M_0 C (kX11_is hq_1) (by decide) (Nat.le_of_ble_eq_true rfl) dX11_opens_3 6 rfl ?_
  obtain ⟨j31, ej31, h⟩ := o_lt h
  have hj31 : ∀ (x1_2 : Int32) (σ_3 : ST), j31 x1_2 σ_3 = some res → G p l e (rmL 2) s m args below meth c (MQ below (Qv D (tyz cI cJ cB cZ) (wM ad cI cJ cB cZ) A res) args s 0 0 A) D (wM ad cI cJ cB cZ) A 2 σ_3 31 [(0, .ref (ad 0)), (1, .int x1_2)] [] := by
    intro x1_2 σ_3 h
    rw [ej31] at h
    refine g_aload_n C dX11_opens_31 rfl 0 rfl 32 rfl ?_
    refine wgX11_204_0 C dX11_opens_32 35 rfl ?_
    refine g_if_le C 39 dX11_opens_35 (by decide) 38 rfl (fun c_4 => ?_) (fun c_4 => ?_)
    · have h := o_pos h c_4
      refine g_aload_n C dX11_opens_39 rfl 0 rfl 40 rfl ?_
      refine g_dup C dX11_opens_40 rfl 41 rfl ?_
      refine wgX11_231_0 C dX11_opens_41 44 rfl ?_
      refine g_iconst C (v := 1) dX11_opens_44 (by decide) 45 rfl ?_
      refine g_iadd C dX11_opens_45 46 rfl ?_
      obtain ⟨σ_5, eσ_5, h⟩ := o_lt h
      refine wpX11_231_0 C eσ_5 dX11_opens_46 49 rfl ?_
      refine g_aload_n C dX11_opens_49 rfl 0 rfl 50 rfl ?_
      obtain ⟨q_6, hq_6, h⟩ := o_bind h
      refine wcX11_225_M_0 C (kX11_next hq_6) (by decide) (Nat.le_of_ble_eq_true rfl) dX11_opens_50 53 rfl ?_
      refine g_iload_n C dX11_opens_53 rfl 1 rfl 54 rfl ?_
      refine g_iconst C (v := -1) dX11_opens_54 (by decide) 55 rfl ?_
      refine g_icmp_ne C 59 dX11_opens_55 (by decide) 58 rfl (fun c_7 => ?_) (fun c_7 => ?_)
      · have h := o_neg h c_7
        refine g_aload_n C dX11_opens_59 rfl 0 rfl 60 rfl ?_
        refine wgX11_80_0 C dX11_opens_60 63 rfl ?_
        refine g_aload_n C dX11_opens_63 rfl 0 rfl 64 rfl ?_
        refine wgX11_269_0 C dX11_opens_64 67 rfl ?_
        refine g_iload_n C dX11_opens_67 rfl 1 rfl 68 rfl ?_
        obtain ⟨c_8, h⟩ := o_chk h
        obtain ⟨σ_9, eσ_9, h⟩ := o_lt h
        refine wtM_21 C eσ_9 c_8 dX11_opens_68 69 rfl ?_
        refine g_aload_n C dX11_opens_69 rfl 0 rfl 70 rfl ?_
        refine g_dup C dX11_opens_70 rfl 71 rfl ?_
        refine wgX11_269_0 C dX11_opens_71 74 rfl ?_
        refine g_iconst C (v := 1) dX11_opens_74 (by decide) 75 rfl ?_
        refine g_iadd C dX11_opens_75 76 rfl ?_
        obtain ⟨σ_10, eσ_10, h⟩ := o_lt h
        refine wpX11_269_0 C eσ_10 dX11_opens_76 79 rfl ?_
        exact g_vret C hr dX11_opens_79 h
      · have h := o_pos h c_7
        exact g_vret C hr dX11_opens_58 h
    · have h := o_neg h c_4
      exact g_vret C hr dX11_opens_38 h
  refine g_if_ne C 17 dX11_opens_6 (by decide) 9 rfl (fun c_11 => ?_) (fun c_11 => ?_)
  · have h := o_neg h c_11
    refine g_aload_n C dX11_opens_17 rfl 0 rfl 18 rfl ?_
    refine wgX11_231_0 C dX11_opens_18 21 rfl ?_
    refine g_bipush C (v := 6) dX11_opens_21 (by decide) 23 rfl ?_
    refine g_icmp_ne C 31 dX11_opens_23 (by decide) 26 rfl (fun c_12 => ?_) (fun c_12 => ?_)
    · have h := o_neg h c_12
      exact g_sub C [0, 1] rfl (hj31 x1 q_1.2 h)
    · have h := o_pos h c_12
      refine g_aload_n C dX11_opens_26 rfl 0 rfl 27 rfl ?_
      refine g_iconst C (v := 2) dX11_opens_27 (by decide) 28 rfl ?_
      obtain ⟨q_13, hq_13, h⟩ := o_bind h
      refine wcX11_219_M_0 C (kX11_fail hq_13) (by decide) (Nat.le_of_ble_eq_true rfl) dX11_opens_28 31 rfl ?_
      exact g_sub C [0, 1] rfl (hj31 x1 q_13 h)
  · have h := o_pos h c_11
    refine g_aload_n C dX11_opens_9 rfl 0 rfl 10 rfl ?_
    refine g_iconst C (v := 1) dX11_opens_10 (by decide) 11 rfl ?_
    obtain ⟨q_14, hq_14, h⟩ := o_bind h
    refine wcX11_219_M_0 C (kX11_fail hq_14) (by decide) (Nat.le_of_ble_eq_true rfl) dX11_opens_11 14 rfl ?_
    refine g_goto C 31 dX11_opens_14 (by decide) ?_
    exact g_sub C [0, 1] rfl (hj31 x1 q_14 h)
end WK
/-! X11_emit private void emit(int, int); -/
def fX11_emit (x1 : Int32) (x2 : Int32) (σ : ST) : Option (ST) :=
  (if ix (gI σ 13) 1000 then (lt (stA σ 19 (gI σ 13) x1) (fun σ_2 => (if ix (gI σ_2 13) 1000 then (lt (stA σ_2 20 (gI σ_2 13) x2) (fun σ_4 => (lt (sI σ_4 13 ((gI σ_4 13) + ((1 : Int32)))) (fun σ_5 => (some σ_5))))) else none))) else none)
section WK
variable {p : Program} {l : Launch} {e : Env} {R : Room} {s : State} {m : MethodId} {args : Array Value} {below : List Frame} {meth : Method} {c : Code} {Q : State → Prop}
variable {D : va_G} {ad : Nat → Nat} {cI cJ cB cZ : ClassId} {A : Nat → Prop} {cc : ByteArray} {nL lev : Nat}
variable {σ : ST} {pc : Nat} {lv : List (Nat × Value)} {st : List Value}
set_option maxHeartbeats 4000000 in
set_option maxRecDepth 100000 in
theorem kX11_emit {l : Launch} {D : va_G} {ad : Nat → Nat} {cI cJ cB cZ : ClassId}  {x1 : Int32} {x2 : Int32} {σ : ST} {res : ST} (h : fX11_emit x1 x2 σ = some res) : CMv l D (tyz cI cJ cB cZ) (wM ad cI cJ cB cZ) 0 yX11_emit cX11_emit 3 none [.ref (ad 0), .int x1, .int x2] σ res := by
  refine cmv_body (own := RX11) (lv := [(0, .ref (ad 0)), (1, .int x1), (2, .int x2)]) (by decide) rfl (wM_addr _ _ _ _ _) (Nat.le_of_ble_eq_true rfl) rfl (fun p e s m args below meth c A C hr => ?_)
  unfold fX11_emit at h
  refine g_aload_n C dX11_emit_0 rfl 0 rfl 1 rfl ?_
  refine wgX11_74_0 C dX11_emit_1 4 rfl ?_
  refine g_aload_n C dX11_emit_4 rfl 0 rfl 5 rfl ?_
  refine wgX11_240_0 C dX11_emit_5 8 rfl ?_
  refine g_iload_n C dX11_emit_8 rfl 1 rfl 9 rfl ?_
  obtain ⟨c_1, h⟩ := o_chk h
  obtain ⟨σ_2, eσ_2, h⟩ := o_lt h
  refine wtM_19 C eσ_2 c_1 dX11_emit_9 10 rfl ?_
  refine g_aload_n C dX11_emit_10 rfl 0 rfl 11 rfl ?_
  refine wgX11_77_0 C dX11_emit_11 14 rfl ?_
  refine g_aload_n C dX11_emit_14 rfl 0 rfl 15 rfl ?_
  refine wgX11_240_0 C dX11_emit_15 18 rfl ?_
  refine g_iload_n C dX11_emit_18 rfl 2 rfl 19 rfl ?_
  obtain ⟨c_3, h⟩ := o_chk h
  obtain ⟨σ_4, eσ_4, h⟩ := o_lt h
  refine wtM_20 C eσ_4 c_3 dX11_emit_19 20 rfl ?_
  refine g_aload_n C dX11_emit_20 rfl 0 rfl 21 rfl ?_
  refine g_dup C dX11_emit_21 rfl 22 rfl ?_
  refine wgX11_240_0 C dX11_emit_22 25 rfl ?_
  refine g_iconst C (v := 1) dX11_emit_25 (by decide) 26 rfl ?_
  refine g_iadd C dX11_emit_26 27 rfl ?_
  obtain ⟨σ_5, eσ_5, h⟩ := o_lt h
  refine wpX11_240_0 C eσ_5 dX11_emit_27 30 rfl ?_
  exact g_vret C hr dX11_emit_30 h
end WK
/-! X11_ofTable private void ofTable(); -/
def fX11_ofTable  (σ : ST) : Option (ST) :=
  (if ix (gI σ 4) 403 then (lt (((ldA σ 3 (gI σ 4)) - ((25 : Int32))) + ((1 : Int32))) (fun x1_2 => (Option.bind (fX11_next σ) (fun q_3 => (Option.bind (fX11_opens ((-1 : Int32)) q_3) (fun q_4 => (lt (gI q_4 4) (fun x2_5 => (Option.bind (fX11_inRange ((0 : Int32)) ((5 : Int32)) q_4) (fun q_6 => (lt (q_6.1) (fun x3_7 => (if (gI q_6.2 6) ≤ 0 then (if ix x2_5 403 then (lt (fun (x1_10 : Int32) (x3_11 : Int32) (σ_12 : ST) => (Option.bind (fX11_emit x1_10 x3_11 σ_12) (fun q_13 => (Option.bind (fX11_must ((8 : Int32)) q_13) (fun q_14 => (lt (sI q_14 5 ((gI q_14 5) - ((1 : Int32)))) (fun σ_15 => (some σ_15)))))))) (fun j66 => (if ((5 : Int32)) < (ldA q_6.2 5 x2_5) then (j66 x1_2 x3_7 q_6.2) else (lt (sI q_6.2 14 ((gI q_6.2 14) ||| (((1 : Int32)) <<< (x3_7 &&& 31)))) (fun σ_17 => (j66 x1_2 x3_7 σ_17)))))) else none) else (some q_6.2)))))))))))))) else none)
section WK
variable {p : Program} {l : Launch} {e : Env} {R : Room} {s : State} {m : MethodId} {args : Array Value} {below : List Frame} {meth : Method} {c : Code} {Q : State → Prop}
variable {D : va_G} {ad : Nat → Nat} {cI cJ cB cZ : ClassId} {A : Nat → Prop} {cc : ByteArray} {nL lev : Nat}
variable {σ : ST} {pc : Nat} {lv : List (Nat × Value)} {st : List Value}
set_option maxHeartbeats 4000000 in
set_option maxRecDepth 100000 in
theorem kX11_ofTable {l : Launch} {D : va_G} {ad : Nat → Nat} {cI cJ cB cZ : ClassId}   {σ : ST} {res : ST} (h : fX11_ofTable σ = some res) : CMv l D (tyz cI cJ cB cZ) (wM ad cI cJ cB cZ) 4 yX11_ofTable cX11_ofTable 4 none [.ref (ad 0)] σ res := by
  refine cmv_body (own := RX11) (lv := [(0, .ref (ad 0))]) (by decide) rfl (wM_addr _ _ _ _ _) (Nat.le_of_ble_eq_true rfl) rfl (fun p e s m args below meth c A C hr => ?_)
  unfold fX11_ofTable at h
  refine g_aload_n C dX11_ofTable_0 rfl 0 rfl 1 rfl ?_
  refine wgX11_20_0 C dX11_ofTable_1 4 rfl ?_
  refine g_aload_n C dX11_ofTable_4 rfl 0 rfl 5 rfl ?_
  refine wgX11_207_0 C dX11_ofTable_5 8 rfl ?_
  obtain ⟨c_1, h⟩ := o_chk h
  refine wlM_3 C c_1 dX11_ofTable_8 9 rfl ?_
  refine g_bipush C (v := 25) dX11_ofTable_9 (by decide) 11 rfl ?_
  refine g_isub C dX11_ofTable_11 12 rfl ?_
  refine g_iconst C (v := 1) dX11_ofTable_12 (by decide) 13 rfl ?_
  refine g_iadd C dX11_ofTable_13 14 rfl ?_
  obtain ⟨x1_2, ex1_2, h⟩ := o_lt h
  refine g_istore_n C (lv' := [(1, .int x1_2), (0, .ref (ad 0))]) ex1_2 dX11_ofTable_14 rfl (by decide) rfl 15 rfl ?_
  refine g_aload_n C dX11_ofTable_15 rfl 1 rfl 16 rfl ?_
  obtain ⟨q_3, hq_3, h⟩ := o_bind h
  refine wcX11_225_M_0 C (kX11_next hq_3) (by decide) (Nat.le_of_ble_eq_true rfl) dX11_ofTable_16 19 rfl ?_
  refine g_aload_n C dX11_ofTable_19 rfl 1 rfl 20 rfl ?_
  refine g_iconst C (v := -1) dX11_ofTable_20 (by decide) 21 rfl ?_
  obtain ⟨q_4, hq_4, h⟩ := o_bind h
  refine wcX11_272_M_0 C (kX11_opens hq_4) (by decide) (Nat.le_of_ble_eq_true rfl) dX11_ofTable_21 24 rfl ?_
  refine g_aload_n C dX11_ofTable_24 rfl 1 rfl 25 rfl ?_
  refine wgX11_207_0 C dX11_ofTable_25 28 rfl ?_
  obtain ⟨x2_5, ex2_5, h⟩ := o_lt h
  refine g_istore_n C (lv' := [(2, .int x2_5), (1, .int x1_2), (0, .ref (ad 0))]) ex2_5 dX11_ofTable_28 rfl (by decide) rfl 29 rfl ?_
  refine g_aload_n C dX11_ofTable_29 rfl 2 rfl 30 rfl ?_
  refine g_iconst C (v := 0) dX11_ofTable_30 (by decide) 31 rfl ?_
  refine g_iconst C (v := 5) dX11_ofTable_31 (by decide) 32 rfl ?_
  obtain ⟨q_6, hq_6, h⟩ := o_bind h
  refine wcX11_253_M_0 C (kX11_inRange hq_6) (by decide) (Nat.le_of_ble_eq_true rfl) dX11_ofTable_32 35 rfl ?_
  obtain ⟨x3_7, ex3_7, h⟩ := o_lt h
  refine g_istore_n C (lv' := [(3, .int x3_7), (2, .int x2_5), (1, .int x1_2), (0, .ref (ad 0))]) ex3_7 dX11_ofTable_35 rfl (by decide) rfl 36 rfl ?_
  refine g_aload_n C dX11_ofTable_36 rfl 3 rfl 37 rfl ?_
  refine wgX11_204_0 C dX11_ofTable_37 40 rfl ?_
  refine g_if_le C 44 dX11_ofTable_40 (by decide) 43 rfl (fun c_8 => ?_) (fun c_8 => ?_)
  · have h := o_pos h c_8
    refine g_aload_n C dX11_ofTable_44 rfl 3 rfl 45 rfl ?_
    refine wgX11_27_0 C dX11_ofTable_45 48 rfl ?_
    refine g_iload_n C dX11_ofTable_48 rfl 1 rfl 49 rfl ?_
    obtain ⟨c_9, h⟩ := o_chk h
    refine wlM_5 C c_9 dX11_ofTable_49 50 rfl ?_
    refine g_iconst C (v := 5) dX11_ofTable_50 (by decide) 51 rfl ?_
    obtain ⟨j66, ej66, h⟩ := o_lt h
    have hj66 : ∀ (x1_10 : Int32) (x3_11 : Int32) (σ_12 : ST), j66 x1_10 x3_11 σ_12 = some res → G p l e (rmL 4) s m args below meth c (MQ below (Qv D (tyz cI cJ cB cZ) (wM ad cI cJ cB cZ) A res) args s 0 0 A) D (wM ad cI cJ cB cZ) A 4 σ_12 66 [(0, .ref (ad 0)), (1, .int x1_10), (3, .int x3_11)] [] := by
      intro x1_10 x3_11 σ_12 h
      rw [ej66] at h
      refine g_aload_n C dX11_ofTable_66 rfl 0 rfl 67 rfl ?_
      refine g_iload_n C dX11_ofTable_67 rfl 1 rfl 68 rfl ?_
      refine g_iload_n C dX11_ofTable_68 rfl 2 rfl 69 rfl ?_
      obtain ⟨q_13, hq_13, h⟩ := o_bind h
      refine wcX11_266_M_0 C (kX11_emit hq_13) (by decide) (Nat.le_of_ble_eq_true rfl) dX11_ofTable_69 72 rfl ?_
      refine g_aload_n C dX11_ofTable_72 rfl 0 rfl 73 rfl ?_
      refine g_bipush C (v := 8) dX11_ofTable_73 (by decide) 75 rfl ?_
      obtain ⟨q_14, hq_14, h⟩ := o_bind h
      refine wcX11_246_M_0 C (kX11_must hq_14) (by decide) (Nat.le_of_ble_eq_true rfl) dX11_ofTable_75 78 rfl ?_
      refine g_aload_n C dX11_ofTable_78 rfl 0 rfl 79 rfl ?_
      refine g_dup C dX11_ofTable_79 rfl 80 rfl ?_
      refine wgX11_231_0 C dX11_ofTable_80 83 rfl ?_
      refine g_iconst C (v := 1) dX11_ofTable_83 (by decide) 84 rfl ?_
      refine g_isub C dX11_ofTable_84 85 rfl ?_
      obtain ⟨σ_15, eσ_15, h⟩ := o_lt h
      refine wpX11_231_0 C eσ_15 dX11_ofTable_85 88 rfl ?_
      exact g_vret C hr dX11_ofTable_88 h
    refine g_icmp_gt C 66 dX11_ofTable_51 (by decide) 54 rfl (fun c_16 => ?_) (fun c_16 => ?_)
    · have h := o_pos h c_16
      exact g_sub C [3, 2, 0] rfl (hj66 x1_2 x3_7 q_6.2 h)
    · have h := o_neg h c_16
      refine g_aload_n C dX11_ofTable_54 rfl 3 rfl 55 rfl ?_
      refine g_dup C dX11_ofTable_55 rfl 56 rfl ?_
      refine wgX11_257_0 C dX11_ofTable_56 59 rfl ?_
      refine g_iconst C (v := 1) dX11_ofTable_59 (by decide) 60 rfl ?_
      refine g_iload_n C dX11_ofTable_60 rfl 0 rfl 61 rfl ?_
      refine g_ishl C dX11_ofTable_61 62 rfl ?_
      refine g_ior C dX11_ofTable_62 63 rfl ?_
      obtain ⟨σ_17, eσ_17, h⟩ := o_lt h
      refine wpX11_257_0 C eσ_17 dX11_ofTable_63 66 rfl ?_
      exact g_sub C [3, 2, 0] rfl (hj66 x1_2 x3_7 σ_17 h)
  · have h := o_neg h c_8
    exact g_vret C hr dX11_ofTable_43 h
end WK
/-! X11_inner private int inner(); -/
def fX11_inner_L7  : Nat → Int32 → ST → Option (Int32 × ST)
  | 0, _, _ => none
  | n + 1, x1, σ => (if x1 < 0 then (some ((-1 : Int32), σ)) else (if ix x1 64 then (if (ldA σ 21 x1) = ((7 : Int32)) then (if ix x1 64 then (some (ldA σ 21 x1, σ)) else none) else (if ix x1 64 then (if (ldA σ 21 x1) < ((100 : Int32)) then (lt (x1 + (-1)) (fun x1_8 => (fX11_inner_L7 n x1_8 σ))) else (if ix x1 64 then (some (ldA σ 21 x1, σ)) else none)) else none)) else none))
def fX11_inner (n : Nat)  (σ : ST) : Option (Int32 × ST) :=
  (lt ((gI σ 16) - ((1 : Int32))) (fun x1_1 => (fX11_inner_L7 n x1_1 σ)))
section WK
variable {p : Program} {l : Launch} {e : Env} {R : Room} {s : State} {m : MethodId} {args : Array Value} {below : List Frame} {meth : Method} {c : Code} {Q : State → Prop}
variable {D : va_G} {ad : Nat → Nat} {cI cJ cB cZ : ClassId} {A : Nat → Prop} {cc : ByteArray} {nL lev : Nat}
variable {σ : ST} {pc : Nat} {lv : List (Nat × Value)} {st : List Value}
set_option maxHeartbeats 4000000 in
set_option maxRecDepth 100000 in
theorem kX11_inner_L7 (C : Ctx p l e (rmL 0) s m args below meth c D (tyz cI cJ cB cZ) (wM ad cI cJ cB cZ) A cX11_inner 2 0 RX11) (hr : meth.sig.returnType = some .int) {res : Int32 × ST}   : ∀ (n : Nat) (x1 : Int32) (σ : ST), fX11_inner_L7 n x1 σ = some res → G p l e (rmL 0) s m args below meth c (MQ below (Qi D (tyz cI cJ cB cZ) (wM ad cI cJ cB cZ) A res) args s 0 0 A) D (wM ad cI cJ cB cZ) A 2 σ 7 [(0, .ref (ad 0)), (1, .int x1)] [] := by
  intro n
  induction n with
  | zero => intro x1 σ h; have h : none = some res := h; cases h
  | succ n ih =>
    intro x1 σ h
    rw [fX11_inner_L7] at h
    refine g_iload_n C dX11_inner_7 rfl 1 rfl 8 rfl ?_
    refine g_if_lt C 46 dX11_inner_8 (by decide) 11 rfl (fun c_2 => ?_) (fun c_2 => ?_)
    · have h := o_pos h c_2
      refine g_iconst C (v := -1) dX11_inner_46 (by decide) 47 rfl ?_
      exact g_iret C hr dX11_inner_47 h
    · have h := o_neg h c_2
      refine g_aload_n C dX11_inner_11 rfl 0 rfl 12 rfl ?_
      refine wgX11_80_0 C dX11_inner_12 15 rfl ?_
      refine g_iload_n C dX11_inner_15 rfl 1 rfl 16 rfl ?_
      obtain ⟨c_3, h⟩ := o_chk h
      refine wlM_21 C c_3 dX11_inner_16 17 rfl ?_
      refine g_bipush C (v := 7) dX11_inner_17 (by decide) 19 rfl ?_
      refine g_icmp_eq C 33 dX11_inner_19 (by decide) 22 rfl (fun c_4 => ?_) (fun c_4 => ?_)
      · have h := o_pos h c_4
        refine g_aload_n C dX11_inner_33 rfl 0 rfl 34 rfl ?_
        refine wgX11_80_0 C dX11_inner_34 37 rfl ?_
        refine g_iload_n C dX11_inner_37 rfl 1 rfl 38 rfl ?_
        obtain ⟨c_5, h⟩ := o_chk h
        refine wlM_21 C c_5 dX11_inner_38 39 rfl ?_
        exact g_iret C hr dX11_inner_39 h
      · have h := o_neg h c_4
        refine g_aload_n C dX11_inner_22 rfl 0 rfl 23 rfl ?_
        refine wgX11_80_0 C dX11_inner_23 26 rfl ?_
        refine g_iload_n C dX11_inner_26 rfl 1 rfl 27 rfl ?_
        obtain ⟨c_6, h⟩ := o_chk h
        refine wlM_21 C c_6 dX11_inner_27 28 rfl ?_
        refine g_bipush C (v := 100) dX11_inner_28 (by decide) 30 rfl ?_
        refine g_icmp_lt C 40 dX11_inner_30 (by decide) 33 rfl (fun c_7 => ?_) (fun c_7 => ?_)
        · have h := o_pos h c_7
          obtain ⟨x1_8, ex1_8, h⟩ := o_lt h
          refine g_iinc C (lv' := [(1, .int x1_8), (0, .ref (ad 0))]) ex1_8 dX11_inner_40 1 rfl (by decide) (by decide) rfl 43 rfl ?_
          refine g_goto C 7 dX11_inner_43 (by decide) ?_
          exact g_sub C [1, 0] rfl (ih x1_8 σ h)
        · have h := o_neg h c_7
          refine g_aload_n C dX11_inner_33 rfl 0 rfl 34 rfl ?_
          refine wgX11_80_0 C dX11_inner_34 37 rfl ?_
          refine g_iload_n C dX11_inner_37 rfl 1 rfl 38 rfl ?_
          obtain ⟨c_9, h⟩ := o_chk h
          refine wlM_21 C c_9 dX11_inner_38 39 rfl ?_
          exact g_iret C hr dX11_inner_39 h
set_option maxHeartbeats 4000000 in
set_option maxRecDepth 100000 in
theorem kX11_inner {l : Launch} {D : va_G} {ad : Nat → Nat} {cI cJ cB cZ : ClassId}  {n : Nat}  {σ : ST} {res : Int32 × ST} (h : fX11_inner n σ = some res) : CMi l D (tyz cI cJ cB cZ) (wM ad cI cJ cB cZ) 0 yX11_inner cX11_inner 2 (some .int) [.ref (ad 0)] σ res := by
  refine cmi_body (own := RX11) (lv := [(0, .ref (ad 0))]) (by decide) rfl (wM_addr _ _ _ _ _) (Nat.le_of_ble_eq_true rfl) rfl (fun p e s m args below meth c A C hr => ?_)
  unfold fX11_inner at h
  refine g_aload_n C dX11_inner_0 rfl 0 rfl 1 rfl ?_
  refine wgX11_269_0 C dX11_inner_1 4 rfl ?_
  refine g_iconst C (v := 1) dX11_inner_4 (by decide) 5 rfl ?_
  refine g_isub C dX11_inner_5 6 rfl ?_
  obtain ⟨x1_1, ex1_1, h⟩ := o_lt h
  refine g_istore_n C (lv' := [(1, .int x1_1), (0, .ref (ad 0))]) ex1_1 dX11_inner_6 rfl (by decide) rfl 7 rfl ?_
  exact g_sub C [1, 0] rfl (kX11_inner_L7 C hr  n x1_1 σ h)
end WK
/-! X11_comesOut private void comesOut(boolean); -/
def fX11_comesOut_L0  : Nat → Int32 → ST → Option (ST)
  | 0, _, _ => none
  | n + 1, x1, σ => (if (gI σ 16) ≤ 0 then (some σ) else (if ix ((gI σ 16) - ((1 : Int32))) 64 then (lt (fun (x1_12 : Int32) (σ_13 : ST) => (lt (sI σ_13 16 ((gI σ_13 16) - ((1 : Int32)))) (fun σ_14 => (if ix (gI σ_14 16) 64 then (lt (ldA σ_14 21 (gI σ_14 16)) (fun x2_16 => (lt (fun (x1_17 : Int32) (v_18 : Int32) (σ_19 : ST) => (Option.bind (fX11_emit v_18 ((0 : Int32)) σ_19) (fun q_20 => (fX11_comesOut_L0 n x1_17 q_20)))) (fun j103 => (if x2_16 = ((9 : Int32)) then (j103 x1_12 ((5 : Int32)) σ_14) else (if x2_16 = ((10 : Int32)) then (j103 x1_12 ((6 : Int32)) σ_14) else (j103 x1_12 ((7 : Int32)) σ_14))))))) else none)))) (fun j59 => (if (ldA σ 21 ((gI σ 16) - ((1 : Int32)))) = ((11 : Int32)) then (j59 x1 σ) else (if x1 = 0 then (if ix ((gI σ 16) - ((1 : Int32))) 64 then (if (ldA σ 21 ((gI σ 16) - ((1 : Int32)))) = ((9 : Int32)) then (j59 x1 σ) else (if ix ((gI σ 16) - ((1 : Int32))) 64 then (if (ldA σ 21 ((gI σ 16) - ((1 : Int32)))) = ((10 : Int32)) then (j59 x1 σ) else (some σ)) else none)) else none) else (some σ))))) else none))
def fX11_comesOut (n : Nat) (x1 : Int32) (σ : ST) : Option (ST) :=
  (if (gI σ 16) ≤ 0 then (some σ) else (if ix ((gI σ 16) - ((1 : Int32))) 64 then (if (ldA σ 21 ((gI σ 16) - ((1 : Int32)))) = ((11 : Int32)) then (lt (sI σ 16 ((gI σ 16) - ((1 : Int32)))) (fun σ_4 => (if ix (gI σ_4 16) 64 then (lt (ldA σ_4 21 (gI σ_4 16)) (fun x2_6 => (if x2_6 = ((9 : Int32)) then (Option.bind (fX11_emit ((5 : Int32)) ((0 : Int32)) σ_4) (fun q_30 => (fX11_comesOut_L0 n x1 q_30))) else (if x2_6 = ((10 : Int32)) then (Option.bind (fX11_emit ((6 : Int32)) ((0 : Int32)) σ_4) (fun q_29 => (fX11_comesOut_L0 n x1 q_29))) else (Option.bind (fX11_emit ((7 : Int32)) ((0 : Int32)) σ_4) (fun q_9 => (fX11_comesOut_L0 n x1 q_9))))))) else none))) else (if x1 = 0 then (if ix ((gI σ 16) - ((1 : Int32))) 64 then (if (ldA σ 21 ((gI σ 16) - ((1 : Int32)))) = ((9 : Int32)) then (lt (sI σ 16 ((gI σ 16) - ((1 : Int32)))) (fun σ_34 => (if ix (gI σ_34 16) 64 then (lt (ldA σ_34 21 (gI σ_34 16)) (fun x2_36 => (if x2_36 = ((9 : Int32)) then (Option.bind (fX11_emit ((5 : Int32)) ((0 : Int32)) σ_34) (fun q_41 => (fX11_comesOut_L0 n x1 q_41))) else (if x2_36 = ((10 : Int32)) then (Option.bind (fX11_emit ((6 : Int32)) ((0 : Int32)) σ_34) (fun q_40 => (fX11_comesOut_L0 n x1 q_40))) else (Option.bind (fX11_emit ((7 : Int32)) ((0 : Int32)) σ_34) (fun q_39 => (fX11_comesOut_L0 n x1 q_39))))))) else none))) else (if ix ((gI σ 16) - ((1 : Int32))) 64 then (if (ldA σ 21 ((gI σ 16) - ((1 : Int32)))) = ((10 : Int32)) then (lt (sI σ 16 ((gI σ 16) - ((1 : Int32)))) (fun σ_44 => (if ix (gI σ_44 16) 64 then (lt (ldA σ_44 21 (gI σ_44 16)) (fun x2_46 => (if x2_46 = ((9 : Int32)) then (Option.bind (fX11_emit ((5 : Int32)) ((0 : Int32)) σ_44) (fun q_51 => (fX11_comesOut_L0 n x1 q_51))) else (if x2_46 = ((10 : Int32)) then (Option.bind (fX11_emit ((6 : Int32)) ((0 : Int32)) σ_44) (fun q_50 => (fX11_comesOut_L0 n x1 q_50))) else (Option.bind (fX11_emit ((7 : Int32)) ((0 : Int32)) σ_44) (fun q_49 => (fX11_comesOut_L0 n x1 q_49))))))) else none))) else (some σ)) else none)) else none) else (some σ))) else none))
section WK
variable {p : Program} {l : Launch} {e : Env} {R : Room} {s : State} {m : MethodId} {args : Array Value} {below : List Frame} {meth : Method} {c : Code} {Q : State → Prop}
variable {D : va_G} {ad : Nat → Nat} {cI cJ cB cZ : ClassId} {A : Nat → Prop} {cc : ByteArray} {nL lev : Nat}
variable {σ : ST} {pc : Nat} {lv : List (Nat × Value)} {st : List Value}
set_option maxHeartbeats 4000000 in
set_option maxRecDepth 100000 in
theorem kX11_comesOut_L0 (C : Ctx p l e (rmL 1) s m args below meth c D (tyz cI cJ cB cZ) (wM ad cI cJ cB cZ) A cX11_comesOut 3 1 RX11) (hr : meth.sig.returnType = none) {res : ST}   : ∀ (n : Nat) (x1 : Int32) (σ : ST), fX11_comesOut_L0 n x1 σ = some res → G p l e (rmL 1) s m args below meth c (MQ below (Qv D (tyz cI cJ cB cZ) (wM ad cI cJ cB cZ) A res) args s 0 0 A) D (wM ad cI cJ cB cZ) A 3 σ 0 [(0, .ref (ad 0)), (1, .int x1)] [] := by
  intro n
  induction n with
  | zero => intro x1 σ h; have h : none = some res := h; cases h
  | succ n ih =>
    intro x1 σ h
    rw [fX11_comesOut_L0] at h
    refine g_aload_n C dX11_comesOut_0 rfl 0 rfl 1 rfl ?_
    refine wgX11_269_0 C dX11_comesOut_1 4 rfl ?_
    refine g_if_le C 110 dX11_comesOut_4 (by decide) 7 rfl (fun c_10 => ?_) (fun c_10 => ?_)
    · have h := o_pos h c_10
      exact g_vret C hr dX11_comesOut_110 h
    · have h := o_neg h c_10
      refine g_aload_n C dX11_comesOut_7 rfl 0 rfl 8 rfl ?_
      refine wgX11_80_0 C dX11_comesOut_8 11 rfl ?_
      refine g_aload_n C dX11_comesOut_11 rfl 0 rfl 12 rfl ?_
      refine wgX11_269_0 C dX11_comesOut_12 15 rfl ?_
      refine g_iconst C (v := 1) dX11_comesOut_15 (by decide) 16 rfl ?_
      refine g_isub C dX11_comesOut_16 17 rfl ?_
      obtain ⟨c_11, h⟩ := o_chk h
      refine wlM_21 C c_11 dX11_comesOut_17 18 rfl ?_
      refine g_bipush C (v := 11) dX11_comesOut_18 (by decide) 20 rfl ?_
      obtain ⟨j59, ej59, h⟩ := o_lt h
      have hj59 : ∀ (x1_12 : Int32) (σ_13 : ST), j59 x1_12 σ_13 = some res → G p l e (rmL 1) s m args below meth c (MQ below (Qv D (tyz cI cJ cB cZ) (wM ad cI cJ cB cZ) A res) args s 0 0 A) D (wM ad cI cJ cB cZ) A 3 σ_13 59 [(0, .ref (ad 0)), (1, .int x1_12)] [] := by
        intro x1_12 σ_13 h
        rw [ej59] at h
        refine g_aload_n C dX11_comesOut_59 rfl 0 rfl 60 rfl ?_
        refine g_dup C dX11_comesOut_60 rfl 61 rfl ?_
        refine wgX11_269_0 C dX11_comesOut_61 64 rfl ?_
        refine g_iconst C (v := 1) dX11_comesOut_64 (by decide) 65 rfl ?_
        refine g_isub C dX11_comesOut_65 66 rfl ?_
        obtain ⟨σ_14, eσ_14, h⟩ := o_lt h
        refine wpX11_269_0 C eσ_14 dX11_comesOut_66 69 rfl ?_
        refine g_aload_n C dX11_comesOut_69 rfl 0 rfl 70 rfl ?_
        refine wgX11_80_0 C dX11_comesOut_70 73 rfl ?_
        refine g_aload_n C dX11_comesOut_73 rfl 0 rfl 74 rfl ?_
        refine wgX11_269_0 C dX11_comesOut_74 77 rfl ?_
        obtain ⟨c_15, h⟩ := o_chk h
        refine wlM_21 C c_15 dX11_comesOut_77 78 rfl ?_
        obtain ⟨x2_16, ex2_16, h⟩ := o_lt h
        refine g_istore_n C (lv' := [(2, .int x2_16), (0, .ref (ad 0)), (1, .int x1_12)]) ex2_16 dX11_comesOut_78 rfl (by decide) rfl 79 rfl ?_
        refine g_aload_n C dX11_comesOut_79 rfl 1 rfl 80 rfl ?_
        refine g_iload_n C dX11_comesOut_80 rfl 0 rfl 81 rfl ?_
        refine g_bipush C (v := 9) dX11_comesOut_81 (by decide) 83 rfl ?_
        obtain ⟨j103, ej103, h⟩ := o_lt h
        have hj103 : ∀ (x1_17 : Int32) (v_18 : Int32) (σ_19 : ST), j103 x1_17 v_18 σ_19 = some res → G p l e (rmL 1) s m args below meth c (MQ below (Qv D (tyz cI cJ cB cZ) (wM ad cI cJ cB cZ) A res) args s 0 0 A) D (wM ad cI cJ cB cZ) A 3 σ_19 103 [(0, .ref (ad 0)), (1, .int x1_17)] [.int v_18, .ref (ad 0)] := by
          intro x1_17 v_18 σ_19 h
          rw [ej103] at h
          refine g_iconst C (v := 0) dX11_comesOut_103 (by decide) 104 rfl ?_
          obtain ⟨q_20, hq_20, h⟩ := o_bind h
          refine wcX11_266_M_0 C (kX11_emit hq_20) (by decide) (Nat.le_of_ble_eq_true rfl) dX11_comesOut_104 107 rfl ?_
          refine g_goto C 0 dX11_comesOut_107 (by decide) ?_
          exact g_sub C [0, 1] rfl (ih x1_17 q_20 h)
        refine g_icmp_ne C 90 dX11_comesOut_83 (by decide) 86 rfl (fun c_21 => ?_) (fun c_21 => ?_)
        · have h := o_neg h c_21
          refine g_iload_n C dX11_comesOut_90 rfl 0 rfl 91 rfl ?_
          refine g_bipush C (v := 10) dX11_comesOut_91 (by decide) 93 rfl ?_
          refine g_icmp_ne C 101 dX11_comesOut_93 (by decide) 96 rfl (fun c_22 => ?_) (fun c_22 => ?_)
          · have h := o_neg h c_22
            refine g_bipush C (v := 7) dX11_comesOut_101 (by decide) 103 rfl ?_
            exact g_sub C [1, 2] rfl (hj103 x1_12 ((7 : Int32)) σ_14 h)
          · have h := o_pos h c_22
            refine g_bipush C (v := 6) dX11_comesOut_96 (by decide) 98 rfl ?_
            refine g_goto C 103 dX11_comesOut_98 (by decide) ?_
            exact g_sub C [1, 2] rfl (hj103 x1_12 ((6 : Int32)) σ_14 h)
        · have h := o_pos h c_21
          refine g_iconst C (v := 5) dX11_comesOut_86 (by decide) 87 rfl ?_
          refine g_goto C 103 dX11_comesOut_87 (by decide) ?_
          exact g_sub C [1, 2] rfl (hj103 x1_12 ((5 : Int32)) σ_14 h)
      refine g_icmp_eq C 59 dX11_comesOut_20 (by decide) 23 rfl (fun c_23 => ?_) (fun c_23 => ?_)
      · have h := o_pos h c_23
        exact g_sub C [0, 1] rfl (hj59 x1 σ h)
      · have h := o_neg h c_23
        refine g_iload_n C dX11_comesOut_23 rfl 1 rfl 24 rfl ?_
        refine g_if_ne C 110 dX11_comesOut_24 (by decide) 27 rfl (fun c_24 => ?_) (fun c_24 => ?_)
        · have h := o_neg h c_24
          exact g_vret C hr dX11_comesOut_110 h
        · have h := o_pos h c_24
          refine g_aload_n C dX11_comesOut_27 rfl 0 rfl 28 rfl ?_
          refine wgX11_80_0 C dX11_comesOut_28 31 rfl ?_
          refine g_aload_n C dX11_comesOut_31 rfl 0 rfl 32 rfl ?_
          refine wgX11_269_0 C dX11_comesOut_32 35 rfl ?_
          refine g_iconst C (v := 1) dX11_comesOut_35 (by decide) 36 rfl ?_
          refine g_isub C dX11_comesOut_36 37 rfl ?_
          obtain ⟨c_25, h⟩ := o_chk h
          refine wlM_21 C c_25 dX11_comesOut_37 38 rfl ?_
          refine g_bipush C (v := 9) dX11_comesOut_38 (by decide) 40 rfl ?_
          refine g_icmp_eq C 59 dX11_comesOut_40 (by decide) 43 rfl (fun c_26 => ?_) (fun c_26 => ?_)
          · have h := o_pos h c_26
            exact g_sub C [0, 1] rfl (hj59 x1 σ h)
          · have h := o_neg h c_26
            refine g_aload_n C dX11_comesOut_43 rfl 0 rfl 44 rfl ?_
            refine wgX11_80_0 C dX11_comesOut_44 47 rfl ?_
            refine g_aload_n C dX11_comesOut_47 rfl 0 rfl 48 rfl ?_
            refine wgX11_269_0 C dX11_comesOut_48 51 rfl ?_
            refine g_iconst C (v := 1) dX11_comesOut_51 (by decide) 52 rfl ?_
            refine g_isub C dX11_comesOut_52 53 rfl ?_
            obtain ⟨c_27, h⟩ := o_chk h
            refine wlM_21 C c_27 dX11_comesOut_53 54 rfl ?_
            refine g_bipush C (v := 10) dX11_comesOut_54 (by decide) 56 rfl ?_
            refine g_icmp_ne C 110 dX11_comesOut_56 (by decide) 59 rfl (fun c_28 => ?_) (fun c_28 => ?_)
            · have h := o_neg h c_28
              exact g_vret C hr dX11_comesOut_110 h
            · have h := o_pos h c_28
              exact g_sub C [0, 1] rfl (hj59 x1 σ h)
set_option maxHeartbeats 4000000 in
set_option maxRecDepth 100000 in
theorem kX11_comesOut {l : Launch} {D : va_G} {ad : Nat → Nat} {cI cJ cB cZ : ClassId}  {n : Nat} {x1 : Int32} {σ : ST} {res : ST} (h : fX11_comesOut n x1 σ = some res) : CMv l D (tyz cI cJ cB cZ) (wM ad cI cJ cB cZ) 1 yX11_comesOut cX11_comesOut 3 none [.ref (ad 0), .int x1] σ res := by
  refine cmv_body (own := RX11) (lv := [(0, .ref (ad 0)), (1, .int x1)]) (by decide) rfl (wM_addr _ _ _ _ _) (Nat.le_of_ble_eq_true rfl) rfl (fun p e s m args below meth c A C hr => ?_)
  unfold fX11_comesOut at h
  refine g_aload_n C dX11_comesOut_0 rfl 0 rfl 1 rfl ?_
  refine wgX11_269_0 C dX11_comesOut_1 4 rfl ?_
  refine g_if_le C 110 dX11_comesOut_4 (by decide) 7 rfl (fun c_1 => ?_) (fun c_1 => ?_)
  · have h := o_pos h c_1
    exact g_vret C hr dX11_comesOut_110 h
  · have h := o_neg h c_1
    refine g_aload_n C dX11_comesOut_7 rfl 0 rfl 8 rfl ?_
    refine wgX11_80_0 C dX11_comesOut_8 11 rfl ?_
    refine g_aload_n C dX11_comesOut_11 rfl 0 rfl 12 rfl ?_
    refine wgX11_269_0 C dX11_comesOut_12 15 rfl ?_
    refine g_iconst C (v := 1) dX11_comesOut_15 (by decide) 16 rfl ?_
    refine g_isub C dX11_comesOut_16 17 rfl ?_
    obtain ⟨c_2, h⟩ := o_chk h
    refine wlM_21 C c_2 dX11_comesOut_17 18 rfl ?_
    refine g_bipush C (v := 11) dX11_comesOut_18 (by decide) 20 rfl ?_
    refine g_icmp_eq C 59 dX11_comesOut_20 (by decide) 23 rfl (fun c_3 => ?_) (fun c_3 => ?_)
    · have h := o_pos h c_3
      refine g_aload_n C dX11_comesOut_59 rfl 0 rfl 60 rfl ?_
      refine g_dup C dX11_comesOut_60 rfl 61 rfl ?_
      refine wgX11_269_0 C dX11_comesOut_61 64 rfl ?_
      refine g_iconst C (v := 1) dX11_comesOut_64 (by decide) 65 rfl ?_
      refine g_isub C dX11_comesOut_65 66 rfl ?_
      obtain ⟨σ_4, eσ_4, h⟩ := o_lt h
      refine wpX11_269_0 C eσ_4 dX11_comesOut_66 69 rfl ?_
      refine g_aload_n C dX11_comesOut_69 rfl 0 rfl 70 rfl ?_
      refine wgX11_80_0 C dX11_comesOut_70 73 rfl ?_
      refine g_aload_n C dX11_comesOut_73 rfl 0 rfl 74 rfl ?_
      refine wgX11_269_0 C dX11_comesOut_74 77 rfl ?_
      obtain ⟨c_5, h⟩ := o_chk h
      refine wlM_21 C c_5 dX11_comesOut_77 78 rfl ?_
      obtain ⟨x2_6, ex2_6, h⟩ := o_lt h
      refine g_istore_n C (lv' := [(2, .int x2_6), (0, .ref (ad 0)), (1, .int x1)]) ex2_6 dX11_comesOut_78 rfl (by decide) rfl 79 rfl ?_
      refine g_aload_n C dX11_comesOut_79 rfl 1 rfl 80 rfl ?_
      refine g_iload_n C dX11_comesOut_80 rfl 0 rfl 81 rfl ?_
      refine g_bipush C (v := 9) dX11_comesOut_81 (by decide) 83 rfl ?_
      refine g_icmp_ne C 90 dX11_comesOut_83 (by decide) 86 rfl (fun c_7 => ?_) (fun c_7 => ?_)
      · have h := o_neg h c_7
        refine g_iload_n C dX11_comesOut_90 rfl 0 rfl 91 rfl ?_
        refine g_bipush C (v := 10) dX11_comesOut_91 (by decide) 93 rfl ?_
        refine g_icmp_ne C 101 dX11_comesOut_93 (by decide) 96 rfl (fun c_8 => ?_) (fun c_8 => ?_)
        · have h := o_neg h c_8
          refine g_bipush C (v := 7) dX11_comesOut_101 (by decide) 103 rfl ?_
          refine g_iconst C (v := 0) dX11_comesOut_103 (by decide) 104 rfl ?_
          obtain ⟨q_9, hq_9, h⟩ := o_bind h
          refine wcX11_266_M_0 C (kX11_emit hq_9) (by decide) (Nat.le_of_ble_eq_true rfl) dX11_comesOut_104 107 rfl ?_
          refine g_goto C 0 dX11_comesOut_107 (by decide) ?_
          exact g_sub C [1, 2] rfl (kX11_comesOut_L0 C hr  n x1 q_9 h)
        · have h := o_pos h c_8
          refine g_bipush C (v := 6) dX11_comesOut_96 (by decide) 98 rfl ?_
          refine g_goto C 103 dX11_comesOut_98 (by decide) ?_
          refine g_iconst C (v := 0) dX11_comesOut_103 (by decide) 104 rfl ?_
          obtain ⟨q_29, hq_29, h⟩ := o_bind h
          refine wcX11_266_M_0 C (kX11_emit hq_29) (by decide) (Nat.le_of_ble_eq_true rfl) dX11_comesOut_104 107 rfl ?_
          refine g_goto C 0 dX11_comesOut_107 (by decide) ?_
          exact g_sub C [1, 2] rfl (kX11_comesOut_L0 C hr  n x1 q_29 h)
      · have h := o_pos h c_7
        refine g_iconst C (v := 5) dX11_comesOut_86 (by decide) 87 rfl ?_
        refine g_goto C 103 dX11_comesOut_87 (by decide) ?_
        refine g_iconst C (v := 0) dX11_comesOut_103 (by decide) 104 rfl ?_
        obtain ⟨q_30, hq_30, h⟩ := o_bind h
        refine wcX11_266_M_0 C (kX11_emit hq_30) (by decide) (Nat.le_of_ble_eq_true rfl) dX11_comesOut_104 107 rfl ?_
        refine g_goto C 0 dX11_comesOut_107 (by decide) ?_
        exact g_sub C [1, 2] rfl (kX11_comesOut_L0 C hr  n x1 q_30 h)
    · have h := o_neg h c_3
      refine g_iload_n C dX11_comesOut_23 rfl 1 rfl 24 rfl ?_
      refine g_if_ne C 110 dX11_comesOut_24 (by decide) 27 rfl (fun c_31 => ?_) (fun c_31 => ?_)
      · have h := o_neg h c_31
        exact g_vret C hr dX11_comesOut_110 h
      · have h := o_pos h c_31
        refine g_aload_n C dX11_comesOut_27 rfl 0 rfl 28 rfl ?_
        refine wgX11_80_0 C dX11_comesOut_28 31 rfl ?_
        refine g_aload_n C dX11_comesOut_31 rfl 0 rfl 32 rfl ?_
        refine wgX11_269_0 C dX11_comesOut_32 35 rfl ?_
        refine g_iconst C (v := 1) dX11_comesOut_35 (by decide) 36 rfl ?_
        refine g_isub C dX11_comesOut_36 37 rfl ?_
        obtain ⟨c_32, h⟩ := o_chk h
        refine wlM_21 C c_32 dX11_comesOut_37 38 rfl ?_
        refine g_bipush C (v := 9) dX11_comesOut_38 (by decide) 40 rfl ?_
        refine g_icmp_eq C 59 dX11_comesOut_40 (by decide) 43 rfl (fun c_33 => ?_) (fun c_33 => ?_)
        · have h := o_pos h c_33
          refine g_aload_n C dX11_comesOut_59 rfl 0 rfl 60 rfl ?_
          refine g_dup C dX11_comesOut_60 rfl 61 rfl ?_
          refine wgX11_269_0 C dX11_comesOut_61 64 rfl ?_
          refine g_iconst C (v := 1) dX11_comesOut_64 (by decide) 65 rfl ?_
          refine g_isub C dX11_comesOut_65 66 rfl ?_
          obtain ⟨σ_34, eσ_34, h⟩ := o_lt h
          refine wpX11_269_0 C eσ_34 dX11_comesOut_66 69 rfl ?_
          refine g_aload_n C dX11_comesOut_69 rfl 0 rfl 70 rfl ?_
          refine wgX11_80_0 C dX11_comesOut_70 73 rfl ?_
          refine g_aload_n C dX11_comesOut_73 rfl 0 rfl 74 rfl ?_
          refine wgX11_269_0 C dX11_comesOut_74 77 rfl ?_
          obtain ⟨c_35, h⟩ := o_chk h
          refine wlM_21 C c_35 dX11_comesOut_77 78 rfl ?_
          obtain ⟨x2_36, ex2_36, h⟩ := o_lt h
          refine g_istore_n C (lv' := [(2, .int x2_36), (0, .ref (ad 0)), (1, .int x1)]) ex2_36 dX11_comesOut_78 rfl (by decide) rfl 79 rfl ?_
          refine g_aload_n C dX11_comesOut_79 rfl 1 rfl 80 rfl ?_
          refine g_iload_n C dX11_comesOut_80 rfl 0 rfl 81 rfl ?_
          refine g_bipush C (v := 9) dX11_comesOut_81 (by decide) 83 rfl ?_
          refine g_icmp_ne C 90 dX11_comesOut_83 (by decide) 86 rfl (fun c_37 => ?_) (fun c_37 => ?_)
          · have h := o_neg h c_37
            refine g_iload_n C dX11_comesOut_90 rfl 0 rfl 91 rfl ?_
            refine g_bipush C (v := 10) dX11_comesOut_91 (by decide) 93 rfl ?_
            refine g_icmp_ne C 101 dX11_comesOut_93 (by decide) 96 rfl (fun c_38 => ?_) (fun c_38 => ?_)
            · have h := o_neg h c_38
              refine g_bipush C (v := 7) dX11_comesOut_101 (by decide) 103 rfl ?_
              refine g_iconst C (v := 0) dX11_comesOut_103 (by decide) 104 rfl ?_
              obtain ⟨q_39, hq_39, h⟩ := o_bind h
              refine wcX11_266_M_0 C (kX11_emit hq_39) (by decide) (Nat.le_of_ble_eq_true rfl) dX11_comesOut_104 107 rfl ?_
              refine g_goto C 0 dX11_comesOut_107 (by decide) ?_
              exact g_sub C [1, 2] rfl (kX11_comesOut_L0 C hr  n x1 q_39 h)
            · have h := o_pos h c_38
              refine g_bipush C (v := 6) dX11_comesOut_96 (by decide) 98 rfl ?_
              refine g_goto C 103 dX11_comesOut_98 (by decide) ?_
              refine g_iconst C (v := 0) dX11_comesOut_103 (by decide) 104 rfl ?_
              obtain ⟨q_40, hq_40, h⟩ := o_bind h
              refine wcX11_266_M_0 C (kX11_emit hq_40) (by decide) (Nat.le_of_ble_eq_true rfl) dX11_comesOut_104 107 rfl ?_
              refine g_goto C 0 dX11_comesOut_107 (by decide) ?_
              exact g_sub C [1, 2] rfl (kX11_comesOut_L0 C hr  n x1 q_40 h)
          · have h := o_pos h c_37
            refine g_iconst C (v := 5) dX11_comesOut_86 (by decide) 87 rfl ?_
            refine g_goto C 103 dX11_comesOut_87 (by decide) ?_
            refine g_iconst C (v := 0) dX11_comesOut_103 (by decide) 104 rfl ?_
            obtain ⟨q_41, hq_41, h⟩ := o_bind h
            refine wcX11_266_M_0 C (kX11_emit hq_41) (by decide) (Nat.le_of_ble_eq_true rfl) dX11_comesOut_104 107 rfl ?_
            refine g_goto C 0 dX11_comesOut_107 (by decide) ?_
            exact g_sub C [1, 2] rfl (kX11_comesOut_L0 C hr  n x1 q_41 h)
        · have h := o_neg h c_33
          refine g_aload_n C dX11_comesOut_43 rfl 0 rfl 44 rfl ?_
          refine wgX11_80_0 C dX11_comesOut_44 47 rfl ?_
          refine g_aload_n C dX11_comesOut_47 rfl 0 rfl 48 rfl ?_
          refine wgX11_269_0 C dX11_comesOut_48 51 rfl ?_
          refine g_iconst C (v := 1) dX11_comesOut_51 (by decide) 52 rfl ?_
          refine g_isub C dX11_comesOut_52 53 rfl ?_
          obtain ⟨c_42, h⟩ := o_chk h
          refine wlM_21 C c_42 dX11_comesOut_53 54 rfl ?_
          refine g_bipush C (v := 10) dX11_comesOut_54 (by decide) 56 rfl ?_
          refine g_icmp_ne C 110 dX11_comesOut_56 (by decide) 59 rfl (fun c_43 => ?_) (fun c_43 => ?_)
          · have h := o_neg h c_43
            exact g_vret C hr dX11_comesOut_110 h
          · have h := o_pos h c_43
            refine g_aload_n C dX11_comesOut_59 rfl 0 rfl 60 rfl ?_
            refine g_dup C dX11_comesOut_60 rfl 61 rfl ?_
            refine wgX11_269_0 C dX11_comesOut_61 64 rfl ?_
            refine g_iconst C (v := 1) dX11_comesOut_64 (by decide) 65 rfl ?_
            refine g_isub C dX11_comesOut_65 66 rfl ?_
            obtain ⟨σ_44, eσ_44, h⟩ := o_lt h
            refine wpX11_269_0 C eσ_44 dX11_comesOut_66 69 rfl ?_
            refine g_aload_n C dX11_comesOut_69 rfl 0 rfl 70 rfl ?_
            refine wgX11_80_0 C dX11_comesOut_70 73 rfl ?_
            refine g_aload_n C dX11_comesOut_73 rfl 0 rfl 74 rfl ?_
            refine wgX11_269_0 C dX11_comesOut_74 77 rfl ?_
            obtain ⟨c_45, h⟩ := o_chk h
            refine wlM_21 C c_45 dX11_comesOut_77 78 rfl ?_
            obtain ⟨x2_46, ex2_46, h⟩ := o_lt h
            refine g_istore_n C (lv' := [(2, .int x2_46), (0, .ref (ad 0)), (1, .int x1)]) ex2_46 dX11_comesOut_78 rfl (by decide) rfl 79 rfl ?_
            refine g_aload_n C dX11_comesOut_79 rfl 1 rfl 80 rfl ?_
            refine g_iload_n C dX11_comesOut_80 rfl 0 rfl 81 rfl ?_
            refine g_bipush C (v := 9) dX11_comesOut_81 (by decide) 83 rfl ?_
            refine g_icmp_ne C 90 dX11_comesOut_83 (by decide) 86 rfl (fun c_47 => ?_) (fun c_47 => ?_)
            · have h := o_neg h c_47
              refine g_iload_n C dX11_comesOut_90 rfl 0 rfl 91 rfl ?_
              refine g_bipush C (v := 10) dX11_comesOut_91 (by decide) 93 rfl ?_
              refine g_icmp_ne C 101 dX11_comesOut_93 (by decide) 96 rfl (fun c_48 => ?_) (fun c_48 => ?_)
              · have h := o_neg h c_48
                refine g_bipush C (v := 7) dX11_comesOut_101 (by decide) 103 rfl ?_
                refine g_iconst C (v := 0) dX11_comesOut_103 (by decide) 104 rfl ?_
                obtain ⟨q_49, hq_49, h⟩ := o_bind h
                refine wcX11_266_M_0 C (kX11_emit hq_49) (by decide) (Nat.le_of_ble_eq_true rfl) dX11_comesOut_104 107 rfl ?_
                refine g_goto C 0 dX11_comesOut_107 (by decide) ?_
                exact g_sub C [1, 2] rfl (kX11_comesOut_L0 C hr  n x1 q_49 h)
              · have h := o_pos h c_48
                refine g_bipush C (v := 6) dX11_comesOut_96 (by decide) 98 rfl ?_
                refine g_goto C 103 dX11_comesOut_98 (by decide) ?_
                refine g_iconst C (v := 0) dX11_comesOut_103 (by decide) 104 rfl ?_
                obtain ⟨q_50, hq_50, h⟩ := o_bind h
                refine wcX11_266_M_0 C (kX11_emit hq_50) (by decide) (Nat.le_of_ble_eq_true rfl) dX11_comesOut_104 107 rfl ?_
                refine g_goto C 0 dX11_comesOut_107 (by decide) ?_
                exact g_sub C [1, 2] rfl (kX11_comesOut_L0 C hr  n x1 q_50 h)
            · have h := o_pos h c_47
              refine g_iconst C (v := 5) dX11_comesOut_86 (by decide) 87 rfl ?_
              refine g_goto C 103 dX11_comesOut_87 (by decide) ?_
              refine g_iconst C (v := 0) dX11_comesOut_103 (by decide) 104 rfl ?_
              obtain ⟨q_51, hq_51, h⟩ := o_bind h
              refine wcX11_266_M_0 C (kX11_emit hq_51) (by decide) (Nat.le_of_ble_eq_true rfl) dX11_comesOut_104 107 rfl ?_
              refine g_goto C 0 dX11_comesOut_107 (by decide) ?_
              exact g_sub C [1, 2] rfl (kX11_comesOut_L0 C hr  n x1 q_51 h)
end WK
/-! X11_named private void named(int); -/
def fX11_named_L2 (k42 : Int32 → Int32 → ST → Option (ST)) (k87 : Int32 → ST → Option (ST)) : Nat → Int32 → Int32 → ST → Option (ST)
  | 0, _, _, _ => none
  | n + 1, x1, x2, σ => (if ix (gI σ 12) 2 then (if (ldA σ 8 (gI σ 12)) ≤ x2 then (k87 x1 σ) else (if ix ((((7 : Int32)) * (gI σ 12)) + x2) 14 then (if ix x1 403 then (if (lg_cmp (ldB σ 9 ((((7 : Int32)) * (gI σ 12)) + x2)) (ldB σ 6 x1)) = 0 then (k42 x1 x2 σ) else (lt (x2 + 1) (fun x2_7 => (fX11_named_L2 k42 k87 n x1 x2_7 σ)))) else none) else none)) else none)
def fX11_named (n : Nat) (x1 : Int32) (σ : ST) : Option (ST) :=
  (lt ((0 : Int32)) (fun x2_1 => (fX11_named_L2 (fun (x1_8 : Int32) (x2_9 : Int32) (σ_10 : ST) => (if ix ((((7 : Int32)) * (gI σ_10 12)) + x2_9) 14 then (if (ldA σ_10 10 ((((7 : Int32)) * (gI σ_10 12)) + x2_9)) = 0 then (lt (sI σ_10 15 ((gI σ_10 15) ||| (((1 : Int32)) <<< (x2_9 &&& 31)))) (fun σ_13 => (Option.bind (fX11_emit ((4 : Int32)) x2_9 σ_13) (fun q_14 => (some q_14))))) else (Option.bind (fX11_wrong ((4 : Int32)) x1_8 σ_10) (fun q_15 => (Option.bind (fX11_emit ((0 : Int32)) ((0 : Int32)) q_15) (fun q_16 => (some q_16)))))) else none)) (fun (x1_17 : Int32) (σ_18 : ST) => (Option.bind (fX11_wrong ((4 : Int32)) x1_17 σ_18) (fun q_19 => (Option.bind (fX11_emit ((0 : Int32)) ((0 : Int32)) q_19) (fun q_20 => (some q_20)))))) n x1 x2_1 σ)))
section WK
variable {p : Program} {l : Launch} {e : Env} {R : Room} {s : State} {m : MethodId} {args : Array Value} {below : List Frame} {meth : Method} {c : Code} {Q : State → Prop}
variable {D : va_G} {ad : Nat → Nat} {cI cJ cB cZ : ClassId} {A : Nat → Prop} {cc : ByteArray} {nL lev : Nat}
variable {σ : ST} {pc : Nat} {lv : List (Nat × Value)} {st : List Value}
set_option maxHeartbeats 4000000 in
set_option maxRecDepth 100000 in
theorem kX11_named_L2 (C : Ctx p l e (rmL 1) s m args below meth c D (tyz cI cJ cB cZ) (wM ad cI cJ cB cZ) A cX11_named 3 1 RX11) (hr : meth.sig.returnType = none) {res : ST} {k42 : Int32 → Int32 → ST → Option (ST)} {k87 : Int32 → ST → Option (ST)} (hk42 : ∀ (x1 : Int32) (x2 : Int32) (σ : ST), k42 x1 x2 σ = some res → G p l e (rmL 1) s m args below meth c (MQ below (Qv D (tyz cI cJ cB cZ) (wM ad cI cJ cB cZ) A res) args s 0 0 A) D (wM ad cI cJ cB cZ) A 3 σ 42 [(0, .ref (ad 0)), (1, .int x1), (2, .int x2)] []) (hk87 : ∀ (x1 : Int32) (σ : ST), k87 x1 σ = some res → G p l e (rmL 1) s m args below meth c (MQ below (Qv D (tyz cI cJ cB cZ) (wM ad cI cJ cB cZ) A res) args s 0 0 A) D (wM ad cI cJ cB cZ) A 3 σ 87 [(0, .ref (ad 0)), (1, .int x1)] []) : ∀ (n : Nat) (x1 : Int32) (x2 : Int32) (σ : ST), fX11_named_L2 k42 k87 n x1 x2 σ = some res → G p l e (rmL 1) s m args below meth c (MQ below (Qv D (tyz cI cJ cB cZ) (wM ad cI cJ cB cZ) A res) args s 0 0 A) D (wM ad cI cJ cB cZ) A 3 σ 2 [(0, .ref (ad 0)), (1, .int x1), (2, .int x2)] [] := by
  intro n
  induction n with
  | zero => intro x1 x2 σ h; have h : none = some res := h; cases h
  | succ n ih =>
    intro x1 x2 σ h
    rw [fX11_named_L2] at h
    refine g_iload_n C dX11_named_2 rfl 2 rfl 3 rfl ?_
    refine g_aload_n C dX11_named_3 rfl 0 rfl 4 rfl ?_
    refine wgX11_40_0 C dX11_named_4 7 rfl ?_
    refine g_aload_n C dX11_named_7 rfl 0 rfl 8 rfl ?_
    refine wgX11_237_0 C dX11_named_8 11 rfl ?_
    obtain ⟨c_2, h⟩ := o_chk h
    refine wlM_8 C c_2 dX11_named_11 12 rfl ?_
    refine g_icmp_ge C 87 dX11_named_12 (by decide) 15 rfl (fun c_3 => ?_) (fun c_3 => ?_)
    · have h := o_pos h c_3
      exact g_sub C [0, 1] rfl (hk87 x1 σ h)
    · have h := o_neg h c_3
      refine g_aload_n C dX11_named_15 rfl 0 rfl 16 rfl ?_
      refine wgX11_43_0 C dX11_named_16 19 rfl ?_
      refine g_bipush C (v := 7) dX11_named_19 (by decide) 21 rfl ?_
      refine g_aload_n C dX11_named_21 rfl 0 rfl 22 rfl ?_
      refine wgX11_237_0 C dX11_named_22 25 rfl ?_
      refine g_imul C dX11_named_25 26 rfl ?_
      refine g_iload_n C dX11_named_26 rfl 2 rfl 27 rfl ?_
      refine g_iadd C dX11_named_27 28 rfl ?_
      obtain ⟨c_4, h⟩ := o_chk h
      refine wlM_9 C c_4 dX11_named_28 29 rfl ?_
      refine g_aload_n C dX11_named_29 rfl 0 rfl 30 rfl ?_
      refine wgX11_30_0 C dX11_named_30 33 rfl ?_
      refine g_iload_n C dX11_named_33 rfl 1 rfl 34 rfl ?_
      obtain ⟨c_5, h⟩ := o_chk h
      refine wlM_6 C c_5 dX11_named_34 35 rfl ?_
      refine g_lcmp C dX11_named_35 36 rfl ?_
      refine g_if_eq C 42 dX11_named_36 (by decide) 39 rfl (fun c_6 => ?_) (fun c_6 => ?_)
      · have h := o_pos h c_6
        exact g_sub C [0, 1, 2] rfl (hk42 x1 x2 σ h)
      · have h := o_neg h c_6
        refine g_goto C 81 dX11_named_39 (by decide) ?_
        obtain ⟨x2_7, ex2_7, h⟩ := o_lt h
        refine g_iinc C (lv' := [(2, .int x2_7), (0, .ref (ad 0)), (1, .int x1)]) ex2_7 dX11_named_81 2 rfl (by decide) (by decide) rfl 84 rfl ?_
        refine g_goto C 2 dX11_named_84 (by decide) ?_
        exact g_sub C [1, 2, 0] rfl (ih x1 x2_7 σ h)
set_option maxHeartbeats 4000000 in
set_option maxRecDepth 100000 in
theorem kX11_named {l : Launch} {D : va_G} {ad : Nat → Nat} {cI cJ cB cZ : ClassId}  {n : Nat} {x1 : Int32} {σ : ST} {res : ST} (h : fX11_named n x1 σ = some res) : CMv l D (tyz cI cJ cB cZ) (wM ad cI cJ cB cZ) 1 yX11_named cX11_named 3 none [.ref (ad 0), .int x1] σ res := by
  refine cmv_body (own := RX11) (lv := [(0, .ref (ad 0)), (1, .int x1)]) (by decide) rfl (wM_addr _ _ _ _ _) (Nat.le_of_ble_eq_true rfl) rfl (fun p e s m args below meth c A C hr => ?_)
  unfold fX11_named at h
  refine g_iconst C (v := 0) dX11_named_0 (by decide) 1 rfl ?_
  obtain ⟨x2_1, ex2_1, h⟩ := o_lt h
  refine g_istore_n C (lv' := [(2, .int x2_1), (0, .ref (ad 0)), (1, .int x1)]) ex2_1 dX11_named_1 rfl (by decide) rfl 2 rfl ?_
  exact g_sub C [1, 2, 0] rfl (kX11_named_L2 C hr (fun x1_8 x2_9 σ_10 h => by
      refine g_aload_n C dX11_named_42 rfl 0 rfl 43 rfl ?_
      refine wgX11_46_0 C dX11_named_43 46 rfl ?_
      refine g_bipush C (v := 7) dX11_named_46 (by decide) 48 rfl ?_
      refine g_aload_n C dX11_named_48 rfl 0 rfl 49 rfl ?_
      refine wgX11_237_0 C dX11_named_49 52 rfl ?_
      refine g_imul C dX11_named_52 53 rfl ?_
      refine g_iload_n C dX11_named_53 rfl 2 rfl 54 rfl ?_
      refine g_iadd C dX11_named_54 55 rfl ?_
      obtain ⟨c_11, h⟩ := o_chk h
      refine wlM_10 C c_11 dX11_named_55 56 rfl ?_
      refine g_if_eq C 62 dX11_named_56 (by decide) 59 rfl (fun c_12 => ?_) (fun c_12 => ?_)
      · have h := o_pos h c_12
        refine g_aload_n C dX11_named_62 rfl 0 rfl 63 rfl ?_
        refine g_dup C dX11_named_63 rfl 64 rfl ?_
        refine wgX11_260_0 C dX11_named_64 67 rfl ?_
        refine g_iconst C (v := 1) dX11_named_67 (by decide) 68 rfl ?_
        refine g_iload_n C dX11_named_68 rfl 2 rfl 69 rfl ?_
        refine g_ishl C dX11_named_69 70 rfl ?_
        refine g_ior C dX11_named_70 71 rfl ?_
        obtain ⟨σ_13, eσ_13, h⟩ := o_lt h
        refine wpX11_260_0 C eσ_13 dX11_named_71 74 rfl ?_
        refine g_aload_n C dX11_named_74 rfl 0 rfl 75 rfl ?_
        refine g_iconst C (v := 4) dX11_named_75 (by decide) 76 rfl ?_
        refine g_iload_n C dX11_named_76 rfl 2 rfl 77 rfl ?_
        obtain ⟨q_14, hq_14, h⟩ := o_bind h
        refine wcX11_266_M_0 C (kX11_emit hq_14) (by decide) (Nat.le_of_ble_eq_true rfl) dX11_named_77 80 rfl ?_
        exact g_vret C hr dX11_named_80 h
      · have h := o_neg h c_12
        refine g_goto C 87 dX11_named_59 (by decide) ?_
        refine g_aload_n C dX11_named_87 rfl 0 rfl 88 rfl ?_
        refine g_iconst C (v := 4) dX11_named_88 (by decide) 89 rfl ?_
        refine g_iload_n C dX11_named_89 rfl 1 rfl 90 rfl ?_
        obtain ⟨q_15, hq_15, h⟩ := o_bind h
        refine wcX11_249_M_0 C (kX11_wrong hq_15) (by decide) (Nat.le_of_ble_eq_true rfl) dX11_named_90 93 rfl ?_
        refine g_aload_n C dX11_named_93 rfl 0 rfl 94 rfl ?_
        refine g_iconst C (v := 0) dX11_named_94 (by decide) 95 rfl ?_
        refine g_iconst C (v := 0) dX11_named_95 (by decide) 96 rfl ?_
        obtain ⟨q_16, hq_16, h⟩ := o_bind h
        refine wcX11_266_M_0 C (kX11_emit hq_16) (by decide) (Nat.le_of_ble_eq_true rfl) dX11_named_96 99 rfl ?_
        exact g_vret C hr dX11_named_99 h) (fun x1_17 σ_18 h => by
      refine g_aload_n C dX11_named_87 rfl 0 rfl 88 rfl ?_
      refine g_iconst C (v := 4) dX11_named_88 (by decide) 89 rfl ?_
      refine g_iload_n C dX11_named_89 rfl 1 rfl 90 rfl ?_
      obtain ⟨q_19, hq_19, h⟩ := o_bind h
      refine wcX11_249_M_0 C (kX11_wrong hq_19) (by decide) (Nat.le_of_ble_eq_true rfl) dX11_named_90 93 rfl ?_
      refine g_aload_n C dX11_named_93 rfl 0 rfl 94 rfl ?_
      refine g_iconst C (v := 0) dX11_named_94 (by decide) 95 rfl ?_
      refine g_iconst C (v := 0) dX11_named_95 (by decide) 96 rfl ?_
      obtain ⟨q_20, hq_20, h⟩ := o_bind h
      refine wcX11_266_M_0 C (kX11_emit hq_20) (by decide) (Nat.le_of_ble_eq_true rfl) dX11_named_96 99 rfl ?_
      exact g_vret C hr dX11_named_99 h) n x1 x2_1 σ h)
end WK
/-! X11_expression private void expression(); -/
def fX11_expression_L158 (k238 : Int32 → ST → Option (ST)) : Nat → Int32 → ST → Option (ST)
  | 0, _, _ => none
  | n + 1, x1, σ => (Option.bind (fX11_is ((8 : Int32)) σ) (fun q_13 => (if q_13.1 = 0 then (k238 x1 q_13.2) else (Option.bind (fX11_inner n q_13.2) (fun q_15 => (lt (fun (x1_16 : Int32) (σ_17 : ST) => (Option.bind (fX11_comesOut n ((0 : Int32)) σ_17) (fun q_18 => (lt (sI q_18 16 ((gI q_18 16) - ((1 : Int32)))) (fun σ_19 => (if ix (gI σ_19 16) 64 then (lt (fun (x1_21 : Int32) (σ_22 : ST) => (lt (sI σ_22 5 ((gI σ_22 5) - ((1 : Int32)))) (fun σ_23 => (Option.bind (fX11_next σ_23) (fun q_24 => (fX11_expression_L158 k238 n x1_21 q_24)))))) (fun j221 => (if (ldA σ_19 21 (gI σ_19 16)) = ((102 : Int32)) then (Option.bind (fX11_emit ((8 : Int32)) ((0 : Int32)) σ_19) (fun q_26 => (j221 x1_16 q_26))) else (j221 x1_16 σ_19)))) else none)))))) (fun j185 => (if q_15.1 = ((7 : Int32)) then (j185 x1 q_15.2) else (Option.bind (fX11_inner n q_15.2) (fun q_28 => (if q_28.1 = ((102 : Int32)) then (j185 x1 q_28.2) else (k238 x1 q_28.2))))))))))))
def fX11_expression_L7 (k317 : ST → Option (ST)) : Nat → Int32 → ST → Option (ST)
  | 0, _, _ => none
  | n + 1, x1, σ => (if x1 = 0 then (some σ) else (if (gI σ 6) = 0 then (Option.bind (fX11_is ((7 : Int32)) σ) (fun q_5 => (if q_5.1 = 0 then (Option.bind (fX11_is ((28 : Int32)) q_5.2) (fun q_7 => (if q_7.1 = 0 then (Option.bind (fX11_is ((25 : Int32)) q_7.2) (fun q_9 => (lt (fun (x1_10 : Int32) (σ_11 : ST) => (Option.bind (fX11_ofTable σ_11) (fun q_12 => (fX11_expression_L158 (fun (x1_30 : Int32) (σ_31 : ST) => (Option.bind (fX11_is ((5 : Int32)) σ_31) (fun q_32 => (lt (fun (σ_33 : ST) => (Option.bind (fX11_is ((9 : Int32)) σ_33) (fun q_34 => (lt (fun (v_35 : Int32) (σ_36 : ST) => (lt (v_35) (fun x1_37 => (if x1_37 = 0 then (k317 σ_36) else (if ix (gI σ_36 4) 403 then (lt (ldA σ_36 3 (gI σ_36 4)) (fun x2_40 => (lt (fun (x1_41 : Int32) (x2_42 : Int32) (v_43 : Int32) (σ_44 : ST) => (Option.bind (fX11_comesOut n v_43 σ_44) (fun q_45 => (if ix (gI q_45 16) 64 then (lt (stA q_45 21 (gI q_45 16) x2_42) (fun σ_47 => (lt (sI σ_47 16 ((gI σ_47 16) + ((1 : Int32)))) (fun σ_48 => (Option.bind (fX11_next σ_48) (fun q_49 => (fX11_expression_L7 k317 n x1_41 q_49))))))) else none)))) (fun j358 => (if x2_40 = ((11 : Int32)) then (j358 x1_37 x2_40 ((1 : Int32)) σ_36) else (j358 x1_37 x2_40 ((0 : Int32)) σ_36)))))) else none))))) (fun j312 => (lt (fun (σ_51 : ST) => (j312 ((1 : Int32)) σ_51)) (fun j307 => (if q_34.1 = 0 then (Option.bind (fX11_is ((10 : Int32)) q_34.2) (fun q_53 => (if q_53.1 = 0 then (Option.bind (fX11_is ((11 : Int32)) q_53.2) (fun q_55 => (if q_55.1 = 0 then (j312 ((0 : Int32)) q_55.2) else (j307 q_55.2)))) else (j307 q_53.2)))) else (j307 q_34.2))))))))) (fun j280 => (if q_32.1 = 0 then (j280 q_32.2) else (Option.bind (fX11_inner n q_32.2) (fun q_58 => (if q_58.1 = ((100 : Int32)) then (Option.bind (fX11_comesOut n ((0 : Int32)) q_58.2) (fun q_60 => (if ix ((gI q_60 16) - ((1 : Int32))) 64 then (lt (stA q_60 21 ((gI q_60 16) - ((1 : Int32))) ((102 : Int32))) (fun σ_62 => (Option.bind (fX11_next σ_62) (fun q_63 => (fX11_expression_L7 k317 n x1_30 q_63))))) else none))) else (j280 q_58.2)))))))))) n x1_10 q_12)))) (fun j85 => (if q_9.1 = 0 then (Option.bind (fX11_is ((26 : Int32)) q_9.2) (fun q_65 => (if q_65.1 = 0 then (Option.bind (fX11_is ((27 : Int32)) q_65.2) (fun q_67 => (if q_67.1 = 0 then (Option.bind (fX11_is ((2 : Int32)) q_67.2) (fun q_69 => (lt (fun (x1_70 : Int32) (σ_71 : ST) => (if (gI σ_71 6) ≤ 0 then (Option.bind (fX11_is ((2 : Int32)) σ_71) (fun q_73 => (lt (fun (x1_74 : Int32) (σ_75 : ST) => (Option.bind (fX11_next σ_75) (fun q_76 => (fX11_expression_L158 (fun (x1_77 : Int32) (σ_78 : ST) => (Option.bind (fX11_is ((5 : Int32)) σ_78) (fun q_79 => (lt (fun (σ_80 : ST) => (Option.bind (fX11_is ((9 : Int32)) σ_80) (fun q_81 => (lt (fun (v_82 : Int32) (σ_83 : ST) => (lt (v_82) (fun x1_84 => (if x1_84 = 0 then (k317 σ_83) else (if ix (gI σ_83 4) 403 then (lt (ldA σ_83 3 (gI σ_83 4)) (fun x2_87 => (lt (fun (x1_88 : Int32) (x2_89 : Int32) (v_90 : Int32) (σ_91 : ST) => (Option.bind (fX11_comesOut n v_90 σ_91) (fun q_92 => (if ix (gI q_92 16) 64 then (lt (stA q_92 21 (gI q_92 16) x2_89) (fun σ_94 => (lt (sI σ_94 16 ((gI σ_94 16) + ((1 : Int32)))) (fun σ_95 => (Option.bind (fX11_next σ_95) (fun q_96 => (fX11_expression_L7 k317 n x1_88 q_96))))))) else none)))) (fun j358 => (if x2_87 = ((11 : Int32)) then (j358 x1_84 x2_87 ((1 : Int32)) σ_83) else (j358 x1_84 x2_87 ((0 : Int32)) σ_83)))))) else none))))) (fun j312 => (lt (fun (σ_98 : ST) => (j312 ((1 : Int32)) σ_98)) (fun j307 => (if q_81.1 = 0 then (Option.bind (fX11_is ((10 : Int32)) q_81.2) (fun q_100 => (if q_100.1 = 0 then (Option.bind (fX11_is ((11 : Int32)) q_100.2) (fun q_102 => (if q_102.1 = 0 then (j312 ((0 : Int32)) q_102.2) else (j307 q_102.2)))) else (j307 q_100.2)))) else (j307 q_81.2))))))))) (fun j280 => (if q_79.1 = 0 then (j280 q_79.2) else (Option.bind (fX11_inner n q_79.2) (fun q_105 => (if q_105.1 = ((100 : Int32)) then (Option.bind (fX11_comesOut n ((0 : Int32)) q_105.2) (fun q_107 => (if ix ((gI q_107 16) - ((1 : Int32))) 64 then (lt (stA q_107 21 ((gI q_107 16) - ((1 : Int32))) ((102 : Int32))) (fun σ_109 => (Option.bind (fX11_next σ_109) (fun q_110 => (fX11_expression_L7 k317 n x1_77 q_110))))) else none))) else (j280 q_105.2)))))))))) n x1_74 q_76)))) (fun j154 => (if q_73.1 = 0 then (Option.bind (fX11_named n (gI q_73.2 4) q_73.2) (fun q_112 => (j154 x1_70 q_112))) else (if ix (gI q_73.2 4) 403 then (Option.bind (fX11_emit ((0 : Int32)) (ldA q_73.2 5 (gI q_73.2 4)) q_73.2) (fun q_114 => (j154 x1_70 q_114))) else none)))))) else (some σ_71))) (fun j113 => (if q_69.1 = 0 then (Option.bind (fX11_is ((1 : Int32)) q_69.2) (fun q_116 => (if q_116.1 = 0 then (Option.bind (fX11_fail ((1 : Int32)) q_116.2) (fun q_118 => (j113 x1 q_118))) else (j113 x1 q_116.2)))) else (j113 x1 q_69.2)))))) else (j85 x1 q_67.2)))) else (j85 x1 q_65.2)))) else (j85 x1 q_9.2)))))) else (Option.bind (fX11_next q_7.2) (fun q_119 => (Option.bind (fX11_opens ((100 : Int32)) q_119) (fun q_120 => (fX11_expression_L7 k317 n x1 q_120)))))))) else (Option.bind (fX11_opens ((7 : Int32)) q_5.2) (fun q_121 => (fX11_expression_L7 k317 n x1 q_121)))))) else (some σ)))
def fX11_expression (n : Nat)  (σ : ST) : Option (ST) :=
  (lt (sI σ 16 ((0 : Int32))) (fun σ_1 => (lt ((1 : Int32)) (fun x1_2 => (fX11_expression_L7 (fun (σ_122 : ST) => (Option.bind (fX11_inner n σ_122) (fun q_123 => (lt (fun (σ_124 : ST) => (Option.bind (fX11_comesOut n ((0 : Int32)) σ_124) (fun q_125 => (some q_125)))) (fun j330 => (if q_123.1 = ((-1 : Int32)) then (j330 q_123.2) else (Option.bind (fX11_fail ((1 : Int32)) q_123.2) (fun q_127 => (j330 q_127))))))))) n x1_2 σ_1)))))
section WK
variable {p : Program} {l : Launch} {e : Env} {R : Room} {s : State} {m : MethodId} {args : Array Value} {below : List Frame} {meth : Method} {c : Code} {Q : State → Prop}
variable {D : va_G} {ad : Nat → Nat} {cI cJ cB cZ : ClassId} {A : Nat → Prop} {cc : ByteArray} {nL lev : Nat}
variable {σ : ST} {pc : Nat} {lv : List (Nat × Value)} {st : List Value}
set_option maxHeartbeats 4000000 in
set_option maxRecDepth 100000 in
theorem kX11_expression_L158 (C : Ctx p l e (rmL 5) s m args below meth c D (tyz cI cJ cB cZ) (wM ad cI cJ cB cZ) A cX11_expression 3 5 RX11) (hr : meth.sig.returnType = none) {res : ST} {k238 : Int32 → ST → Option (ST)} (hk238 : ∀ (x1 : Int32) (σ : ST), k238 x1 σ = some res → G p l e (rmL 5) s m args below meth c (MQ below (Qv D (tyz cI cJ cB cZ) (wM ad cI cJ cB cZ) A res) args s 0 0 A) D (wM ad cI cJ cB cZ) A 3 σ 238 [(0, .ref (ad 0)), (1, .int x1)] []) : ∀ (n : Nat) (x1 : Int32) (σ : ST), fX11_expression_L158 k238 n x1 σ = some res → G p l e (rmL 5) s m args below meth c (MQ below (Qv D (tyz cI cJ cB cZ) (wM ad cI cJ cB cZ) A res) args s 0 0 A) D (wM ad cI cJ cB cZ) A 3 σ 158 [(0, .ref (ad 0)), (1, .int x1)] [] := by
  intro n
  induction n with
  | zero => intro x1 σ h; have h : none = some res := h; cases h
  | succ n ih =>
    intro x1 σ h
    rw [fX11_expression_L158] at h
    refine g_aload_n C dX11_expression_158 rfl 0 rfl 159 rfl ?_
    refine g_bipush C (v := 8) dX11_expression_159 (by decide) 161 rfl ?_
    obtain ⟨q_13, hq_13, h⟩ := o_bind h
    refine wcX11_222_M_0 C (kX11_is hq_13) (by decide) (Nat.le_of_ble_eq_true rfl) dX11_expression_161 164 rfl ?_
    refine g_if_eq C 238 dX11_expression_164 (by decide) 167 rfl (fun c_14 => ?_) (fun c_14 => ?_)
    · have h := o_pos h c_14
      exact g_sub C [0, 1] rfl (hk238 x1 q_13.2 h)
    · have h := o_neg h c_14
      refine g_aload_n C dX11_expression_167 rfl 0 rfl 168 rfl ?_
      obtain ⟨q_15, hq_15, h⟩ := o_bind h
      refine wcX11_281_M_0 C (kX11_inner hq_15) (by decide) (Nat.le_of_ble_eq_true rfl) dX11_expression_168 171 rfl ?_
      refine g_bipush C (v := 7) dX11_expression_171 (by decide) 173 rfl ?_
      obtain ⟨j185, ej185, h⟩ := o_lt h
      have hj185 : ∀ (x1_16 : Int32) (σ_17 : ST), j185 x1_16 σ_17 = some res → G p l e (rmL 5) s m args below meth c (MQ below (Qv D (tyz cI cJ cB cZ) (wM ad cI cJ cB cZ) A res) args s 0 0 A) D (wM ad cI cJ cB cZ) A 3 σ_17 185 [(0, .ref (ad 0)), (1, .int x1_16)] [] := by
        intro x1_16 σ_17 h
        rw [ej185] at h
        refine g_aload_n C dX11_expression_185 rfl 0 rfl 186 rfl ?_
        refine g_iconst C (v := 0) dX11_expression_186 (by decide) 187 rfl ?_
        obtain ⟨q_18, hq_18, h⟩ := o_bind h
        refine wcX11_285_M_0 C (kX11_comesOut hq_18) (by decide) (Nat.le_of_ble_eq_true rfl) dX11_expression_187 190 rfl ?_
        refine g_aload_n C dX11_expression_190 rfl 0 rfl 191 rfl ?_
        refine g_dup C dX11_expression_191 rfl 192 rfl ?_
        refine wgX11_269_0 C dX11_expression_192 195 rfl ?_
        refine g_iconst C (v := 1) dX11_expression_195 (by decide) 196 rfl ?_
        refine g_isub C dX11_expression_196 197 rfl ?_
        obtain ⟨σ_19, eσ_19, h⟩ := o_lt h
        refine wpX11_269_0 C eσ_19 dX11_expression_197 200 rfl ?_
        refine g_aload_n C dX11_expression_200 rfl 0 rfl 201 rfl ?_
        refine wgX11_80_0 C dX11_expression_201 204 rfl ?_
        refine g_aload_n C dX11_expression_204 rfl 0 rfl 205 rfl ?_
        refine wgX11_269_0 C dX11_expression_205 208 rfl ?_
        obtain ⟨c_20, h⟩ := o_chk h
        refine wlM_21 C c_20 dX11_expression_208 209 rfl ?_
        refine g_bipush C (v := 102) dX11_expression_209 (by decide) 211 rfl ?_
        obtain ⟨j221, ej221, h⟩ := o_lt h
        have hj221 : ∀ (x1_21 : Int32) (σ_22 : ST), j221 x1_21 σ_22 = some res → G p l e (rmL 5) s m args below meth c (MQ below (Qv D (tyz cI cJ cB cZ) (wM ad cI cJ cB cZ) A res) args s 0 0 A) D (wM ad cI cJ cB cZ) A 3 σ_22 221 [(0, .ref (ad 0)), (1, .int x1_21)] [] := by
          intro x1_21 σ_22 h
          rw [ej221] at h
          refine g_aload_n C dX11_expression_221 rfl 0 rfl 222 rfl ?_
          refine g_dup C dX11_expression_222 rfl 223 rfl ?_
          refine wgX11_231_0 C dX11_expression_223 226 rfl ?_
          refine g_iconst C (v := 1) dX11_expression_226 (by decide) 227 rfl ?_
          refine g_isub C dX11_expression_227 228 rfl ?_
          obtain ⟨σ_23, eσ_23, h⟩ := o_lt h
          refine wpX11_231_0 C eσ_23 dX11_expression_228 231 rfl ?_
          refine g_aload_n C dX11_expression_231 rfl 0 rfl 232 rfl ?_
          obtain ⟨q_24, hq_24, h⟩ := o_bind h
          refine wcX11_225_M_0 C (kX11_next hq_24) (by decide) (Nat.le_of_ble_eq_true rfl) dX11_expression_232 235 rfl ?_
          refine g_goto C 158 dX11_expression_235 (by decide) ?_
          exact g_sub C [0, 1] rfl (ih x1_21 q_24 h)
        refine g_icmp_ne C 221 dX11_expression_211 (by decide) 214 rfl (fun c_25 => ?_) (fun c_25 => ?_)
        · have h := o_neg h c_25
          exact g_sub C [0, 1] rfl (hj221 x1_16 σ_19 h)
        · have h := o_pos h c_25
          refine g_aload_n C dX11_expression_214 rfl 0 rfl 215 rfl ?_
          refine g_bipush C (v := 8) dX11_expression_215 (by decide) 217 rfl ?_
          refine g_iconst C (v := 0) dX11_expression_217 (by decide) 218 rfl ?_
          obtain ⟨q_26, hq_26, h⟩ := o_bind h
          refine wcX11_266_M_0 C (kX11_emit hq_26) (by decide) (Nat.le_of_ble_eq_true rfl) dX11_expression_218 221 rfl ?_
          exact g_sub C [0, 1] rfl (hj221 x1_16 q_26 h)
      refine g_icmp_eq C 185 dX11_expression_173 (by decide) 176 rfl (fun c_27 => ?_) (fun c_27 => ?_)
      · have h := o_pos h c_27
        exact g_sub C [0, 1] rfl (hj185 x1 q_15.2 h)
      · have h := o_neg h c_27
        refine g_aload_n C dX11_expression_176 rfl 0 rfl 177 rfl ?_
        obtain ⟨q_28, hq_28, h⟩ := o_bind h
        refine wcX11_281_M_0 C (kX11_inner hq_28) (by decide) (Nat.le_of_ble_eq_true rfl) dX11_expression_177 180 rfl ?_
        refine g_bipush C (v := 102) dX11_expression_180 (by decide) 182 rfl ?_
        refine g_icmp_ne C 238 dX11_expression_182 (by decide) 185 rfl (fun c_29 => ?_) (fun c_29 => ?_)
        · have h := o_neg h c_29
          exact g_sub C [0, 1] rfl (hk238 x1 q_28.2 h)
        · have h := o_pos h c_29
          exact g_sub C [0, 1] rfl (hj185 x1 q_28.2 h)
set_option maxHeartbeats 4000000 in
set_option maxRecDepth 100000 in
theorem kX11_expression_L7 (C : Ctx p l e (rmL 5) s m args below meth c D (tyz cI cJ cB cZ) (wM ad cI cJ cB cZ) A cX11_expression 3 5 RX11) (hr : meth.sig.returnType = none) {res : ST} {k317 : ST → Option (ST)} (hk317 : ∀ (σ : ST), k317 σ = some res → G p l e (rmL 5) s m args below meth c (MQ below (Qv D (tyz cI cJ cB cZ) (wM ad cI cJ cB cZ) A res) args s 0 0 A) D (wM ad cI cJ cB cZ) A 3 σ 317 [(0, .ref (ad 0))] []) : ∀ (n : Nat) (x1 : Int32) (σ : ST), fX11_expression_L7 k317 n x1 σ = some res → G p l e (rmL 5) s m args below meth c (MQ below (Qv D (tyz cI cJ cB cZ) (wM ad cI cJ cB cZ) A res) args s 0 0 A) D (wM ad cI cJ cB cZ) A 3 σ 7 [(0, .ref (ad 0)), (1, .int x1)] [] := by
  intro n
  induction n with
  | zero => intro x1 σ h; have h : none = some res := h; cases h
  | succ n ih =>
    intro x1 σ h
    rw [fX11_expression_L7] at h
    refine g_iload_n C dX11_expression_7 rfl 1 rfl 8 rfl ?_
    refine g_if_eq C 388 dX11_expression_8 (by decide) 11 rfl (fun c_3 => ?_) (fun c_3 => ?_)
    · have h := o_pos h c_3
      exact g_vret C hr dX11_expression_388 h
    · have h := o_neg h c_3
      refine g_aload_n C dX11_expression_11 rfl 0 rfl 12 rfl ?_
      refine wgX11_204_0 C dX11_expression_12 15 rfl ?_
      refine g_if_ne C 388 dX11_expression_15 (by decide) 18 rfl (fun c_4 => ?_) (fun c_4 => ?_)
      · have h := o_neg h c_4
        exact g_vret C hr dX11_expression_388 h
      · have h := o_pos h c_4
        refine g_aload_n C dX11_expression_18 rfl 0 rfl 19 rfl ?_
        refine g_bipush C (v := 7) dX11_expression_19 (by decide) 21 rfl ?_
        obtain ⟨q_5, hq_5, h⟩ := o_bind h
        refine wcX11_222_M_0 C (kX11_is hq_5) (by decide) (Nat.le_of_ble_eq_true rfl) dX11_expression_21 24 rfl ?_
        refine g_if_eq C 36 dX11_expression_24 (by decide) 27 rfl (fun c_6 => ?_) (fun c_6 => ?_)
        · have h := o_pos h c_6
          refine g_aload_n C dX11_expression_36 rfl 0 rfl 37 rfl ?_
          refine g_bipush C (v := 28) dX11_expression_37 (by decide) 39 rfl ?_
          obtain ⟨q_7, hq_7, h⟩ := o_bind h
          refine wcX11_222_M_0 C (kX11_is hq_7) (by decide) (Nat.le_of_ble_eq_true rfl) dX11_expression_39 42 rfl ?_
          refine g_if_eq C 58 dX11_expression_42 (by decide) 45 rfl (fun c_8 => ?_) (fun c_8 => ?_)
          · have h := o_pos h c_8
            refine g_aload_n C dX11_expression_58 rfl 0 rfl 59 rfl ?_
            refine g_bipush C (v := 25) dX11_expression_59 (by decide) 61 rfl ?_
            obtain ⟨q_9, hq_9, h⟩ := o_bind h
            refine wcX11_222_M_0 C (kX11_is hq_9) (by decide) (Nat.le_of_ble_eq_true rfl) dX11_expression_61 64 rfl ?_
            obtain ⟨j85, ej85, h⟩ := o_lt h
            have hj85 : ∀ (x1_10 : Int32) (σ_11 : ST), j85 x1_10 σ_11 = some res → G p l e (rmL 5) s m args below meth c (MQ below (Qv D (tyz cI cJ cB cZ) (wM ad cI cJ cB cZ) A res) args s 0 0 A) D (wM ad cI cJ cB cZ) A 3 σ_11 85 [(0, .ref (ad 0)), (1, .int x1_10)] [] := by
              intro x1_10 σ_11 h
              rw [ej85] at h
              refine g_aload_n C dX11_expression_85 rfl 0 rfl 86 rfl ?_
              obtain ⟨q_12, hq_12, h⟩ := o_bind h
              refine wcX11_275_M_0 C (kX11_ofTable hq_12) (by decide) (Nat.le_of_ble_eq_true rfl) dX11_expression_86 89 rfl ?_
              refine g_goto C 158 dX11_expression_89 (by decide) ?_
              exact g_sub C [0, 1] rfl (kX11_expression_L158 C hr (fun x1_30 σ_31 h => by
                  refine g_aload_n C dX11_expression_238 rfl 0 rfl 239 rfl ?_
                  refine g_iconst C (v := 5) dX11_expression_239 (by decide) 240 rfl ?_
                  obtain ⟨q_32, hq_32, h⟩ := o_bind h
                  refine wcX11_222_M_0 C (kX11_is hq_32) (by decide) (Nat.le_of_ble_eq_true rfl) dX11_expression_240 243 rfl ?_
                  obtain ⟨j280, ej280, h⟩ := o_lt h
                  have hj280 : ∀ (σ_33 : ST), j280 σ_33 = some res → G p l e (rmL 5) s m args below meth c (MQ below (Qv D (tyz cI cJ cB cZ) (wM ad cI cJ cB cZ) A res) args s 0 0 A) D (wM ad cI cJ cB cZ) A 3 σ_33 280 [(0, .ref (ad 0))] [] := by
                    intro σ_33 h
                    rw [ej280] at h
                    refine g_aload_n C dX11_expression_280 rfl 0 rfl 281 rfl ?_
                    refine g_bipush C (v := 9) dX11_expression_281 (by decide) 283 rfl ?_
                    obtain ⟨q_34, hq_34, h⟩ := o_bind h
                    refine wcX11_222_M_0 C (kX11_is hq_34) (by decide) (Nat.le_of_ble_eq_true rfl) dX11_expression_283 286 rfl ?_
                    obtain ⟨j312, ej312, h⟩ := o_lt h
                    have hj312 : ∀ (v_35 : Int32) (σ_36 : ST), j312 v_35 σ_36 = some res → G p l e (rmL 5) s m args below meth c (MQ below (Qv D (tyz cI cJ cB cZ) (wM ad cI cJ cB cZ) A res) args s 0 0 A) D (wM ad cI cJ cB cZ) A 3 σ_36 312 [(0, .ref (ad 0))] [.int v_35] := by
                      intro v_35 σ_36 h
                      rw [ej312] at h
                      obtain ⟨x1_37, ex1_37, h⟩ := o_lt h
                      refine g_istore_n C (lv' := [(1, .int x1_37), (0, .ref (ad 0))]) ex1_37 dX11_expression_312 rfl (by decide) rfl 313 rfl ?_
                      refine g_iload_n C dX11_expression_313 rfl 0 rfl 314 rfl ?_
                      refine g_if_ne C 336 dX11_expression_314 (by decide) 317 rfl (fun c_38 => ?_) (fun c_38 => ?_)
                      · have h := o_neg h c_38
                        refine g_aload_n C dX11_expression_336 rfl 1 rfl 337 rfl ?_
                        refine wgX11_20_0 C dX11_expression_337 340 rfl ?_
                        refine g_aload_n C dX11_expression_340 rfl 1 rfl 341 rfl ?_
                        refine wgX11_207_0 C dX11_expression_341 344 rfl ?_
                        obtain ⟨c_39, h⟩ := o_chk h
                        refine wlM_3 C c_39 dX11_expression_344 345 rfl ?_
                        obtain ⟨x2_40, ex2_40, h⟩ := o_lt h
                        refine g_istore_n C (lv' := [(2, .int x2_40), (1, .int x1_37), (0, .ref (ad 0))]) ex2_40 dX11_expression_345 rfl (by decide) rfl 346 rfl ?_
                        refine g_aload_n C dX11_expression_346 rfl 2 rfl 347 rfl ?_
                        refine g_iload_n C dX11_expression_347 rfl 0 rfl 348 rfl ?_
                        refine g_bipush C (v := 11) dX11_expression_348 (by decide) 350 rfl ?_
                        obtain ⟨j358, ej358, h⟩ := o_lt h
                        have hj358 : ∀ (x1_41 : Int32) (x2_42 : Int32) (v_43 : Int32) (σ_44 : ST), j358 x1_41 x2_42 v_43 σ_44 = some res → G p l e (rmL 5) s m args below meth c (MQ below (Qv D (tyz cI cJ cB cZ) (wM ad cI cJ cB cZ) A res) args s 0 0 A) D (wM ad cI cJ cB cZ) A 3 σ_44 358 [(0, .ref (ad 0)), (1, .int x1_41), (2, .int x2_42)] [.int v_43, .ref (ad 0)] := by
                          intro x1_41 x2_42 v_43 σ_44 h
                          rw [ej358] at h
                          obtain ⟨q_45, hq_45, h⟩ := o_bind h
                          refine wcX11_285_M_0 C (kX11_comesOut hq_45) (by decide) (Nat.le_of_ble_eq_true rfl) dX11_expression_358 361 rfl ?_
                          refine g_aload_n C dX11_expression_361 rfl 0 rfl 362 rfl ?_
                          refine wgX11_80_0 C dX11_expression_362 365 rfl ?_
                          refine g_aload_n C dX11_expression_365 rfl 0 rfl 366 rfl ?_
                          refine wgX11_269_0 C dX11_expression_366 369 rfl ?_
                          refine g_iload_n C dX11_expression_369 rfl 2 rfl 370 rfl ?_
                          obtain ⟨c_46, h⟩ := o_chk h
                          obtain ⟨σ_47, eσ_47, h⟩ := o_lt h
                          refine wtM_21 C eσ_47 c_46 dX11_expression_370 371 rfl ?_
                          refine g_aload_n C dX11_expression_371 rfl 0 rfl 372 rfl ?_
                          refine g_dup C dX11_expression_372 rfl 373 rfl ?_
                          refine wgX11_269_0 C dX11_expression_373 376 rfl ?_
                          refine g_iconst C (v := 1) dX11_expression_376 (by decide) 377 rfl ?_
                          refine g_iadd C dX11_expression_377 378 rfl ?_
                          obtain ⟨σ_48, eσ_48, h⟩ := o_lt h
                          refine wpX11_269_0 C eσ_48 dX11_expression_378 381 rfl ?_
                          refine g_aload_n C dX11_expression_381 rfl 0 rfl 382 rfl ?_
                          obtain ⟨q_49, hq_49, h⟩ := o_bind h
                          refine wcX11_225_M_0 C (kX11_next hq_49) (by decide) (Nat.le_of_ble_eq_true rfl) dX11_expression_382 385 rfl ?_
                          refine g_goto C 7 dX11_expression_385 (by decide) ?_
                          exact g_sub C [0, 1] rfl (ih x1_41 q_49 h)
                        refine g_icmp_ne C 357 dX11_expression_350 (by decide) 353 rfl (fun c_50 => ?_) (fun c_50 => ?_)
                        · have h := o_neg h c_50
                          refine g_iconst C (v := 0) dX11_expression_357 (by decide) 358 rfl ?_
                          exact g_sub C [2, 1, 0] rfl (hj358 x1_37 x2_40 ((0 : Int32)) σ_36 h)
                        · have h := o_pos h c_50
                          refine g_iconst C (v := 1) dX11_expression_353 (by decide) 354 rfl ?_
                          refine g_goto C 358 dX11_expression_354 (by decide) ?_
                          exact g_sub C [2, 1, 0] rfl (hj358 x1_37 x2_40 ((1 : Int32)) σ_36 h)
                      · have h := o_pos h c_38
                        exact g_sub C [1] rfl (hk317 σ_36 h)
                    obtain ⟨j307, ej307, h⟩ := o_lt h
                    have hj307 : ∀ (σ_51 : ST), j307 σ_51 = some res → G p l e (rmL 5) s m args below meth c (MQ below (Qv D (tyz cI cJ cB cZ) (wM ad cI cJ cB cZ) A res) args s 0 0 A) D (wM ad cI cJ cB cZ) A 3 σ_51 307 [(0, .ref (ad 0))] [] := by
                      intro σ_51 h
                      rw [ej307] at h
                      refine g_iconst C (v := 1) dX11_expression_307 (by decide) 308 rfl ?_
                      refine g_goto C 312 dX11_expression_308 (by decide) ?_
                      exact g_sub C [0] rfl (hj312 ((1 : Int32)) σ_51 h)
                    refine g_if_ne C 307 dX11_expression_286 (by decide) 289 rfl (fun c_52 => ?_) (fun c_52 => ?_)
                    · have h := o_neg h c_52
                      exact g_sub C [0] rfl (hj307 q_34.2 h)
                    · have h := o_pos h c_52
                      refine g_aload_n C dX11_expression_289 rfl 0 rfl 290 rfl ?_
                      refine g_bipush C (v := 10) dX11_expression_290 (by decide) 292 rfl ?_
                      obtain ⟨q_53, hq_53, h⟩ := o_bind h
                      refine wcX11_222_M_0 C (kX11_is hq_53) (by decide) (Nat.le_of_ble_eq_true rfl) dX11_expression_292 295 rfl ?_
                      refine g_if_ne C 307 dX11_expression_295 (by decide) 298 rfl (fun c_54 => ?_) (fun c_54 => ?_)
                      · have h := o_neg h c_54
                        exact g_sub C [0] rfl (hj307 q_53.2 h)
                      · have h := o_pos h c_54
                        refine g_aload_n C dX11_expression_298 rfl 0 rfl 299 rfl ?_
                        refine g_bipush C (v := 11) dX11_expression_299 (by decide) 301 rfl ?_
                        obtain ⟨q_55, hq_55, h⟩ := o_bind h
                        refine wcX11_222_M_0 C (kX11_is hq_55) (by decide) (Nat.le_of_ble_eq_true rfl) dX11_expression_301 304 rfl ?_
                        refine g_if_eq C 311 dX11_expression_304 (by decide) 307 rfl (fun c_56 => ?_) (fun c_56 => ?_)
                        · have h := o_pos h c_56
                          refine g_iconst C (v := 0) dX11_expression_311 (by decide) 312 rfl ?_
                          exact g_sub C [0] rfl (hj312 ((0 : Int32)) q_55.2 h)
                        · have h := o_neg h c_56
                          exact g_sub C [0] rfl (hj307 q_55.2 h)
                  refine g_if_eq C 280 dX11_expression_243 (by decide) 246 rfl (fun c_57 => ?_) (fun c_57 => ?_)
                  · have h := o_pos h c_57
                    exact g_sub C [0] rfl (hj280 q_32.2 h)
                  · have h := o_neg h c_57
                    refine g_aload_n C dX11_expression_246 rfl 0 rfl 247 rfl ?_
                    obtain ⟨q_58, hq_58, h⟩ := o_bind h
                    refine wcX11_281_M_0 C (kX11_inner hq_58) (by decide) (Nat.le_of_ble_eq_true rfl) dX11_expression_247 250 rfl ?_
                    refine g_bipush C (v := 100) dX11_expression_250 (by decide) 252 rfl ?_
                    refine g_icmp_ne C 280 dX11_expression_252 (by decide) 255 rfl (fun c_59 => ?_) (fun c_59 => ?_)
                    · have h := o_neg h c_59
                      exact g_sub C [0] rfl (hj280 q_58.2 h)
                    · have h := o_pos h c_59
                      refine g_aload_n C dX11_expression_255 rfl 0 rfl 256 rfl ?_
                      refine g_iconst C (v := 0) dX11_expression_256 (by decide) 257 rfl ?_
                      obtain ⟨q_60, hq_60, h⟩ := o_bind h
                      refine wcX11_285_M_0 C (kX11_comesOut hq_60) (by decide) (Nat.le_of_ble_eq_true rfl) dX11_expression_257 260 rfl ?_
                      refine g_aload_n C dX11_expression_260 rfl 0 rfl 261 rfl ?_
                      refine wgX11_80_0 C dX11_expression_261 264 rfl ?_
                      refine g_aload_n C dX11_expression_264 rfl 0 rfl 265 rfl ?_
                      refine wgX11_269_0 C dX11_expression_265 268 rfl ?_
                      refine g_iconst C (v := 1) dX11_expression_268 (by decide) 269 rfl ?_
                      refine g_isub C dX11_expression_269 270 rfl ?_
                      refine g_bipush C (v := 102) dX11_expression_270 (by decide) 272 rfl ?_
                      obtain ⟨c_61, h⟩ := o_chk h
                      obtain ⟨σ_62, eσ_62, h⟩ := o_lt h
                      refine wtM_21 C eσ_62 c_61 dX11_expression_272 273 rfl ?_
                      refine g_aload_n C dX11_expression_273 rfl 0 rfl 274 rfl ?_
                      obtain ⟨q_63, hq_63, h⟩ := o_bind h
                      refine wcX11_225_M_0 C (kX11_next hq_63) (by decide) (Nat.le_of_ble_eq_true rfl) dX11_expression_274 277 rfl ?_
                      refine g_goto C 7 dX11_expression_277 (by decide) ?_
                      exact g_sub C [0, 1] rfl (ih x1_30 q_63 h)) n x1_10 q_12 h)
            refine g_if_ne C 85 dX11_expression_64 (by decide) 67 rfl (fun c_64 => ?_) (fun c_64 => ?_)
            · have h := o_neg h c_64
              exact g_sub C [0, 1] rfl (hj85 x1 q_9.2 h)
            · have h := o_pos h c_64
              refine g_aload_n C dX11_expression_67 rfl 0 rfl 68 rfl ?_
              refine g_bipush C (v := 26) dX11_expression_68 (by decide) 70 rfl ?_
              obtain ⟨q_65, hq_65, h⟩ := o_bind h
              refine wcX11_222_M_0 C (kX11_is hq_65) (by decide) (Nat.le_of_ble_eq_true rfl) dX11_expression_70 73 rfl ?_
              refine g_if_ne C 85 dX11_expression_73 (by decide) 76 rfl (fun c_66 => ?_) (fun c_66 => ?_)
              · have h := o_neg h c_66
                exact g_sub C [0, 1] rfl (hj85 x1 q_65.2 h)
              · have h := o_pos h c_66
                refine g_aload_n C dX11_expression_76 rfl 0 rfl 77 rfl ?_
                refine g_bipush C (v := 27) dX11_expression_77 (by decide) 79 rfl ?_
                obtain ⟨q_67, hq_67, h⟩ := o_bind h
                refine wcX11_222_M_0 C (kX11_is hq_67) (by decide) (Nat.le_of_ble_eq_true rfl) dX11_expression_79 82 rfl ?_
                refine g_if_eq C 92 dX11_expression_82 (by decide) 85 rfl (fun c_68 => ?_) (fun c_68 => ?_)
                · have h := o_pos h c_68
                  refine g_aload_n C dX11_expression_92 rfl 0 rfl 93 rfl ?_
                  refine g_iconst C (v := 2) dX11_expression_93 (by decide) 94 rfl ?_
                  obtain ⟨q_69, hq_69, h⟩ := o_bind h
                  refine wcX11_222_M_0 C (kX11_is hq_69) (by decide) (Nat.le_of_ble_eq_true rfl) dX11_expression_94 97 rfl ?_
                  obtain ⟨j113, ej113, h⟩ := o_lt h
                  have hj113 : ∀ (x1_70 : Int32) (σ_71 : ST), j113 x1_70 σ_71 = some res → G p l e (rmL 5) s m args below meth c (MQ below (Qv D (tyz cI cJ cB cZ) (wM ad cI cJ cB cZ) A res) args s 0 0 A) D (wM ad cI cJ cB cZ) A 3 σ_71 113 [(0, .ref (ad 0)), (1, .int x1_70)] [] := by
                    intro x1_70 σ_71 h
                    rw [ej113] at h
                    refine g_aload_n C dX11_expression_113 rfl 0 rfl 114 rfl ?_
                    refine wgX11_204_0 C dX11_expression_114 117 rfl ?_
                    refine g_if_le C 121 dX11_expression_117 (by decide) 120 rfl (fun c_72 => ?_) (fun c_72 => ?_)
                    · have h := o_pos h c_72
                      refine g_aload_n C dX11_expression_121 rfl 0 rfl 122 rfl ?_
                      refine g_iconst C (v := 2) dX11_expression_122 (by decide) 123 rfl ?_
                      obtain ⟨q_73, hq_73, h⟩ := o_bind h
                      refine wcX11_222_M_0 C (kX11_is hq_73) (by decide) (Nat.le_of_ble_eq_true rfl) dX11_expression_123 126 rfl ?_
                      obtain ⟨j154, ej154, h⟩ := o_lt h
                      have hj154 : ∀ (x1_74 : Int32) (σ_75 : ST), j154 x1_74 σ_75 = some res → G p l e (rmL 5) s m args below meth c (MQ below (Qv D (tyz cI cJ cB cZ) (wM ad cI cJ cB cZ) A res) args s 0 0 A) D (wM ad cI cJ cB cZ) A 3 σ_75 154 [(0, .ref (ad 0)), (1, .int x1_74)] [] := by
                        intro x1_74 σ_75 h
                        rw [ej154] at h
                        refine g_aload_n C dX11_expression_154 rfl 0 rfl 155 rfl ?_
                        obtain ⟨q_76, hq_76, h⟩ := o_bind h
                        refine wcX11_225_M_0 C (kX11_next hq_76) (by decide) (Nat.le_of_ble_eq_true rfl) dX11_expression_155 158 rfl ?_
                        exact g_sub C [0, 1] rfl (kX11_expression_L158 C hr (fun x1_77 σ_78 h => by
                            refine g_aload_n C dX11_expression_238 rfl 0 rfl 239 rfl ?_
                            refine g_iconst C (v := 5) dX11_expression_239 (by decide) 240 rfl ?_
                            obtain ⟨q_79, hq_79, h⟩ := o_bind h
                            refine wcX11_222_M_0 C (kX11_is hq_79) (by decide) (Nat.le_of_ble_eq_true rfl) dX11_expression_240 243 rfl ?_
                            obtain ⟨j280, ej280, h⟩ := o_lt h
                            have hj280 : ∀ (σ_80 : ST), j280 σ_80 = some res → G p l e (rmL 5) s m args below meth c (MQ below (Qv D (tyz cI cJ cB cZ) (wM ad cI cJ cB cZ) A res) args s 0 0 A) D (wM ad cI cJ cB cZ) A 3 σ_80 280 [(0, .ref (ad 0))] [] := by
                              intro σ_80 h
                              rw [ej280] at h
                              refine g_aload_n C dX11_expression_280 rfl 0 rfl 281 rfl ?_
                              refine g_bipush C (v := 9) dX11_expression_281 (by decide) 283 rfl ?_
                              obtain ⟨q_81, hq_81, h⟩ := o_bind h
                              refine wcX11_222_M_0 C (kX11_is hq_81) (by decide) (Nat.le_of_ble_eq_true rfl) dX11_expression_283 286 rfl ?_
                              obtain ⟨j312, ej312, h⟩ := o_lt h
                              have hj312 : ∀ (v_82 : Int32) (σ_83 : ST), j312 v_82 σ_83 = some res → G p l e (rmL 5) s m args below meth c (MQ below (Qv D (tyz cI cJ cB cZ) (wM ad cI cJ cB cZ) A res) args s 0 0 A) D (wM ad cI cJ cB cZ) A 3 σ_83 312 [(0, .ref (ad 0))] [.int v_82] := by
                                intro v_82 σ_83 h
                                rw [ej312] at h
                                obtain ⟨x1_84, ex1_84, h⟩ := o_lt h
                                refine g_istore_n C (lv' := [(1, .int x1_84), (0, .ref (ad 0))]) ex1_84 dX11_expression_312 rfl (by decide) rfl 313 rfl ?_
                                refine g_iload_n C dX11_expression_313 rfl 0 rfl 314 rfl ?_
                                refine g_if_ne C 336 dX11_expression_314 (by decide) 317 rfl (fun c_85 => ?_) (fun c_85 => ?_)
                                · have h := o_neg h c_85
                                  refine g_aload_n C dX11_expression_336 rfl 1 rfl 337 rfl ?_
                                  refine wgX11_20_0 C dX11_expression_337 340 rfl ?_
                                  refine g_aload_n C dX11_expression_340 rfl 1 rfl 341 rfl ?_
                                  refine wgX11_207_0 C dX11_expression_341 344 rfl ?_
                                  obtain ⟨c_86, h⟩ := o_chk h
                                  refine wlM_3 C c_86 dX11_expression_344 345 rfl ?_
                                  obtain ⟨x2_87, ex2_87, h⟩ := o_lt h
                                  refine g_istore_n C (lv' := [(2, .int x2_87), (1, .int x1_84), (0, .ref (ad 0))]) ex2_87 dX11_expression_345 rfl (by decide) rfl 346 rfl ?_
                                  refine g_aload_n C dX11_expression_346 rfl 2 rfl 347 rfl ?_
                                  refine g_iload_n C dX11_expression_347 rfl 0 rfl 348 rfl ?_
                                  refine g_bipush C (v := 11) dX11_expression_348 (by decide) 350 rfl ?_
                                  obtain ⟨j358, ej358, h⟩ := o_lt h
                                  have hj358 : ∀ (x1_88 : Int32) (x2_89 : Int32) (v_90 : Int32) (σ_91 : ST), j358 x1_88 x2_89 v_90 σ_91 = some res → G p l e (rmL 5) s m args below meth c (MQ below (Qv D (tyz cI cJ cB cZ) (wM ad cI cJ cB cZ) A res) args s 0 0 A) D (wM ad cI cJ cB cZ) A 3 σ_91 358 [(0, .ref (ad 0)), (1, .int x1_88), (2, .int x2_89)] [.int v_90, .ref (ad 0)] := by
                                    intro x1_88 x2_89 v_90 σ_91 h
                                    rw [ej358] at h
                                    obtain ⟨q_92, hq_92, h⟩ := o_bind h
                                    refine wcX11_285_M_0 C (kX11_comesOut hq_92) (by decide) (Nat.le_of_ble_eq_true rfl) dX11_expression_358 361 rfl ?_
                                    refine g_aload_n C dX11_expression_361 rfl 0 rfl 362 rfl ?_
                                    refine wgX11_80_0 C dX11_expression_362 365 rfl ?_
                                    refine g_aload_n C dX11_expression_365 rfl 0 rfl 366 rfl ?_
                                    refine wgX11_269_0 C dX11_expression_366 369 rfl ?_
                                    refine g_iload_n C dX11_expression_369 rfl 2 rfl 370 rfl ?_
                                    obtain ⟨c_93, h⟩ := o_chk h
                                    obtain ⟨σ_94, eσ_94, h⟩ := o_lt h
                                    refine wtM_21 C eσ_94 c_93 dX11_expression_370 371 rfl ?_
                                    refine g_aload_n C dX11_expression_371 rfl 0 rfl 372 rfl ?_
                                    refine g_dup C dX11_expression_372 rfl 373 rfl ?_
                                    refine wgX11_269_0 C dX11_expression_373 376 rfl ?_
                                    refine g_iconst C (v := 1) dX11_expression_376 (by decide) 377 rfl ?_
                                    refine g_iadd C dX11_expression_377 378 rfl ?_
                                    obtain ⟨σ_95, eσ_95, h⟩ := o_lt h
                                    refine wpX11_269_0 C eσ_95 dX11_expression_378 381 rfl ?_
                                    refine g_aload_n C dX11_expression_381 rfl 0 rfl 382 rfl ?_
                                    obtain ⟨q_96, hq_96, h⟩ := o_bind h
                                    refine wcX11_225_M_0 C (kX11_next hq_96) (by decide) (Nat.le_of_ble_eq_true rfl) dX11_expression_382 385 rfl ?_
                                    refine g_goto C 7 dX11_expression_385 (by decide) ?_
                                    exact g_sub C [0, 1] rfl (ih x1_88 q_96 h)
                                  refine g_icmp_ne C 357 dX11_expression_350 (by decide) 353 rfl (fun c_97 => ?_) (fun c_97 => ?_)
                                  · have h := o_neg h c_97
                                    refine g_iconst C (v := 0) dX11_expression_357 (by decide) 358 rfl ?_
                                    exact g_sub C [2, 1, 0] rfl (hj358 x1_84 x2_87 ((0 : Int32)) σ_83 h)
                                  · have h := o_pos h c_97
                                    refine g_iconst C (v := 1) dX11_expression_353 (by decide) 354 rfl ?_
                                    refine g_goto C 358 dX11_expression_354 (by decide) ?_
                                    exact g_sub C [2, 1, 0] rfl (hj358 x1_84 x2_87 ((1 : Int32)) σ_83 h)
                                · have h := o_pos h c_85
                                  exact g_sub C [1] rfl (hk317 σ_83 h)
                              obtain ⟨j307, ej307, h⟩ := o_lt h
                              have hj307 : ∀ (σ_98 : ST), j307 σ_98 = some res → G p l e (rmL 5) s m args below meth c (MQ below (Qv D (tyz cI cJ cB cZ) (wM ad cI cJ cB cZ) A res) args s 0 0 A) D (wM ad cI cJ cB cZ) A 3 σ_98 307 [(0, .ref (ad 0))] [] := by
                                intro σ_98 h
                                rw [ej307] at h
                                refine g_iconst C (v := 1) dX11_expression_307 (by decide) 308 rfl ?_
                                refine g_goto C 312 dX11_expression_308 (by decide) ?_
                                exact g_sub C [0] rfl (hj312 ((1 : Int32)) σ_98 h)
                              refine g_if_ne C 307 dX11_expression_286 (by decide) 289 rfl (fun c_99 => ?_) (fun c_99 => ?_)
                              · have h := o_neg h c_99
                                exact g_sub C [0] rfl (hj307 q_81.2 h)
                              · have h := o_pos h c_99
                                refine g_aload_n C dX11_expression_289 rfl 0 rfl 290 rfl ?_
                                refine g_bipush C (v := 10) dX11_expression_290 (by decide) 292 rfl ?_
                                obtain ⟨q_100, hq_100, h⟩ := o_bind h
                                refine wcX11_222_M_0 C (kX11_is hq_100) (by decide) (Nat.le_of_ble_eq_true rfl) dX11_expression_292 295 rfl ?_
                                refine g_if_ne C 307 dX11_expression_295 (by decide) 298 rfl (fun c_101 => ?_) (fun c_101 => ?_)
                                · have h := o_neg h c_101
                                  exact g_sub C [0] rfl (hj307 q_100.2 h)
                                · have h := o_pos h c_101
                                  refine g_aload_n C dX11_expression_298 rfl 0 rfl 299 rfl ?_
                                  refine g_bipush C (v := 11) dX11_expression_299 (by decide) 301 rfl ?_
                                  obtain ⟨q_102, hq_102, h⟩ := o_bind h
                                  refine wcX11_222_M_0 C (kX11_is hq_102) (by decide) (Nat.le_of_ble_eq_true rfl) dX11_expression_301 304 rfl ?_
                                  refine g_if_eq C 311 dX11_expression_304 (by decide) 307 rfl (fun c_103 => ?_) (fun c_103 => ?_)
                                  · have h := o_pos h c_103
                                    refine g_iconst C (v := 0) dX11_expression_311 (by decide) 312 rfl ?_
                                    exact g_sub C [0] rfl (hj312 ((0 : Int32)) q_102.2 h)
                                  · have h := o_neg h c_103
                                    exact g_sub C [0] rfl (hj307 q_102.2 h)
                            refine g_if_eq C 280 dX11_expression_243 (by decide) 246 rfl (fun c_104 => ?_) (fun c_104 => ?_)
                            · have h := o_pos h c_104
                              exact g_sub C [0] rfl (hj280 q_79.2 h)
                            · have h := o_neg h c_104
                              refine g_aload_n C dX11_expression_246 rfl 0 rfl 247 rfl ?_
                              obtain ⟨q_105, hq_105, h⟩ := o_bind h
                              refine wcX11_281_M_0 C (kX11_inner hq_105) (by decide) (Nat.le_of_ble_eq_true rfl) dX11_expression_247 250 rfl ?_
                              refine g_bipush C (v := 100) dX11_expression_250 (by decide) 252 rfl ?_
                              refine g_icmp_ne C 280 dX11_expression_252 (by decide) 255 rfl (fun c_106 => ?_) (fun c_106 => ?_)
                              · have h := o_neg h c_106
                                exact g_sub C [0] rfl (hj280 q_105.2 h)
                              · have h := o_pos h c_106
                                refine g_aload_n C dX11_expression_255 rfl 0 rfl 256 rfl ?_
                                refine g_iconst C (v := 0) dX11_expression_256 (by decide) 257 rfl ?_
                                obtain ⟨q_107, hq_107, h⟩ := o_bind h
                                refine wcX11_285_M_0 C (kX11_comesOut hq_107) (by decide) (Nat.le_of_ble_eq_true rfl) dX11_expression_257 260 rfl ?_
                                refine g_aload_n C dX11_expression_260 rfl 0 rfl 261 rfl ?_
                                refine wgX11_80_0 C dX11_expression_261 264 rfl ?_
                                refine g_aload_n C dX11_expression_264 rfl 0 rfl 265 rfl ?_
                                refine wgX11_269_0 C dX11_expression_265 268 rfl ?_
                                refine g_iconst C (v := 1) dX11_expression_268 (by decide) 269 rfl ?_
                                refine g_isub C dX11_expression_269 270 rfl ?_
                                refine g_bipush C (v := 102) dX11_expression_270 (by decide) 272 rfl ?_
                                obtain ⟨c_108, h⟩ := o_chk h
                                obtain ⟨σ_109, eσ_109, h⟩ := o_lt h
                                refine wtM_21 C eσ_109 c_108 dX11_expression_272 273 rfl ?_
                                refine g_aload_n C dX11_expression_273 rfl 0 rfl 274 rfl ?_
                                obtain ⟨q_110, hq_110, h⟩ := o_bind h
                                refine wcX11_225_M_0 C (kX11_next hq_110) (by decide) (Nat.le_of_ble_eq_true rfl) dX11_expression_274 277 rfl ?_
                                refine g_goto C 7 dX11_expression_277 (by decide) ?_
                                exact g_sub C [0, 1] rfl (ih x1_77 q_110 h)) n x1_74 q_76 h)
                      refine g_if_eq C 146 dX11_expression_126 (by decide) 129 rfl (fun c_111 => ?_) (fun c_111 => ?_)
                      · have h := o_pos h c_111
                        refine g_aload_n C dX11_expression_146 rfl 0 rfl 147 rfl ?_
                        refine g_aload_n C dX11_expression_147 rfl 0 rfl 148 rfl ?_
                        refine wgX11_207_0 C dX11_expression_148 151 rfl ?_
                        obtain ⟨q_112, hq_112, h⟩ := o_bind h
                        refine wcX11_278_M_0 C (kX11_named hq_112) (by decide) (Nat.le_of_ble_eq_true rfl) dX11_expression_151 154 rfl ?_
                        exact g_sub C [0, 1] rfl (hj154 x1_70 q_112 h)
                      · have h := o_neg h c_111
                        refine g_aload_n C dX11_expression_129 rfl 0 rfl 130 rfl ?_
                        refine g_iconst C (v := 0) dX11_expression_130 (by decide) 131 rfl ?_
                        refine g_aload_n C dX11_expression_131 rfl 0 rfl 132 rfl ?_
                        refine wgX11_27_0 C dX11_expression_132 135 rfl ?_
                        refine g_aload_n C dX11_expression_135 rfl 0 rfl 136 rfl ?_
                        refine wgX11_207_0 C dX11_expression_136 139 rfl ?_
                        obtain ⟨c_113, h⟩ := o_chk h
                        refine wlM_5 C c_113 dX11_expression_139 140 rfl ?_
                        obtain ⟨q_114, hq_114, h⟩ := o_bind h
                        refine wcX11_266_M_0 C (kX11_emit hq_114) (by decide) (Nat.le_of_ble_eq_true rfl) dX11_expression_140 143 rfl ?_
                        refine g_goto C 154 dX11_expression_143 (by decide) ?_
                        exact g_sub C [0, 1] rfl (hj154 x1_70 q_114 h)
                    · have h := o_neg h c_72
                      exact g_vret C hr dX11_expression_120 h
                  refine g_if_ne C 113 dX11_expression_97 (by decide) 100 rfl (fun c_115 => ?_) (fun c_115 => ?_)
                  · have h := o_neg h c_115
                    exact g_sub C [0, 1] rfl (hj113 x1 q_69.2 h)
                  · have h := o_pos h c_115
                    refine g_aload_n C dX11_expression_100 rfl 0 rfl 101 rfl ?_
                    refine g_iconst C (v := 1) dX11_expression_101 (by decide) 102 rfl ?_
                    obtain ⟨q_116, hq_116, h⟩ := o_bind h
                    refine wcX11_222_M_0 C (kX11_is hq_116) (by decide) (Nat.le_of_ble_eq_true rfl) dX11_expression_102 105 rfl ?_
                    refine g_if_ne C 113 dX11_expression_105 (by decide) 108 rfl (fun c_117 => ?_) (fun c_117 => ?_)
                    · have h := o_neg h c_117
                      exact g_sub C [0, 1] rfl (hj113 x1 q_116.2 h)
                    · have h := o_pos h c_117
                      refine g_aload_n C dX11_expression_108 rfl 0 rfl 109 rfl ?_
                      refine g_iconst C (v := 1) dX11_expression_109 (by decide) 110 rfl ?_
                      obtain ⟨q_118, hq_118, h⟩ := o_bind h
                      refine wcX11_219_M_0 C (kX11_fail hq_118) (by decide) (Nat.le_of_ble_eq_true rfl) dX11_expression_110 113 rfl ?_
                      exact g_sub C [0, 1] rfl (hj113 x1 q_118 h)
                · have h := o_neg h c_68
                  exact g_sub C [0, 1] rfl (hj85 x1 q_67.2 h)
          · have h := o_neg h c_8
            refine g_aload_n C dX11_expression_45 rfl 0 rfl 46 rfl ?_
            obtain ⟨q_119, hq_119, h⟩ := o_bind h
            refine wcX11_225_M_0 C (kX11_next hq_119) (by decide) (Nat.le_of_ble_eq_true rfl) dX11_expression_46 49 rfl ?_
            refine g_aload_n C dX11_expression_49 rfl 0 rfl 50 rfl ?_
            refine g_bipush C (v := 100) dX11_expression_50 (by decide) 52 rfl ?_
            obtain ⟨q_120, hq_120, h⟩ := o_bind h
            refine wcX11_272_M_0 C (kX11_opens hq_120) (by decide) (Nat.le_of_ble_eq_true rfl) dX11_expression_52 55 rfl ?_
            refine g_goto C 7 dX11_expression_55 (by decide) ?_
            exact g_sub C [0, 1] rfl (ih x1 q_120 h)
        · have h := o_neg h c_6
          refine g_aload_n C dX11_expression_27 rfl 0 rfl 28 rfl ?_
          refine g_bipush C (v := 7) dX11_expression_28 (by decide) 30 rfl ?_
          obtain ⟨q_121, hq_121, h⟩ := o_bind h
          refine wcX11_272_M_0 C (kX11_opens hq_121) (by decide) (Nat.le_of_ble_eq_true rfl) dX11_expression_30 33 rfl ?_
          refine g_goto C 7 dX11_expression_33 (by decide) ?_
          exact g_sub C [0, 1] rfl (ih x1 q_121 h)
set_option maxHeartbeats 4000000 in
set_option maxRecDepth 100000 in
theorem kX11_expression {l : Launch} {D : va_G} {ad : Nat → Nat} {cI cJ cB cZ : ClassId}  {n : Nat}  {σ : ST} {res : ST} (h : fX11_expression n σ = some res) : CMv l D (tyz cI cJ cB cZ) (wM ad cI cJ cB cZ) 5 yX11_expression cX11_expression 3 none [.ref (ad 0)] σ res := by
  refine cmv_body (own := RX11) (lv := [(0, .ref (ad 0))]) (by decide) rfl (wM_addr _ _ _ _ _) (Nat.le_of_ble_eq_true rfl) rfl (fun p e s m args below meth c A C hr => ?_)
  unfold fX11_expression at h
  refine g_aload_n C dX11_expression_0 rfl 0 rfl 1 rfl ?_
  refine g_iconst C (v := 0) dX11_expression_1 (by decide) 2 rfl ?_
  obtain ⟨σ_1, eσ_1, h⟩ := o_lt h
  refine wpX11_269_0 C eσ_1 dX11_expression_2 5 rfl ?_
  refine g_iconst C (v := 1) dX11_expression_5 (by decide) 6 rfl ?_
  obtain ⟨x1_2, ex1_2, h⟩ := o_lt h
  refine g_istore_n C (lv' := [(1, .int x1_2), (0, .ref (ad 0))]) ex1_2 dX11_expression_6 rfl (by decide) rfl 7 rfl ?_
  exact g_sub C [1, 0] rfl (kX11_expression_L7 C hr (fun σ_122 h => by
      refine g_aload_n C dX11_expression_317 rfl 0 rfl 318 rfl ?_
      obtain ⟨q_123, hq_123, h⟩ := o_bind h
      refine wcX11_281_M_0 C (kX11_inner hq_123) (by decide) (Nat.le_of_ble_eq_true rfl) dX11_expression_318 321 rfl ?_
      refine g_iconst C (v := -1) dX11_expression_321 (by decide) 322 rfl ?_
      obtain ⟨j330, ej330, h⟩ := o_lt h
      have hj330 : ∀ (σ_124 : ST), j330 σ_124 = some res → G p l e (rmL 5) s m args below meth c (MQ below (Qv D (tyz cI cJ cB cZ) (wM ad cI cJ cB cZ) A res) args s 0 0 A) D (wM ad cI cJ cB cZ) A 3 σ_124 330 [(0, .ref (ad 0))] [] := by
        intro σ_124 h
        rw [ej330] at h
        refine g_aload_n C dX11_expression_330 rfl 0 rfl 331 rfl ?_
        refine g_iconst C (v := 0) dX11_expression_331 (by decide) 332 rfl ?_
        obtain ⟨q_125, hq_125, h⟩ := o_bind h
        refine wcX11_285_M_0 C (kX11_comesOut hq_125) (by decide) (Nat.le_of_ble_eq_true rfl) dX11_expression_332 335 rfl ?_
        exact g_vret C hr dX11_expression_335 h
      refine g_icmp_eq C 330 dX11_expression_322 (by decide) 325 rfl (fun c_126 => ?_) (fun c_126 => ?_)
      · have h := o_pos h c_126
        exact g_sub C [0] rfl (hj330 q_123.2 h)
      · have h := o_neg h c_126
        refine g_aload_n C dX11_expression_325 rfl 0 rfl 326 rfl ?_
        refine g_iconst C (v := 1) dX11_expression_326 (by decide) 327 rfl ?_
        obtain ⟨q_127, hq_127, h⟩ := o_bind h
        refine wcX11_219_M_0 C (kX11_fail hq_127) (by decide) (Nat.le_of_ble_eq_true rfl) dX11_expression_327 330 rfl ?_
        exact g_sub C [0] rfl (hj330 q_127 h)) n x1_2 σ_1 h)
end WK
