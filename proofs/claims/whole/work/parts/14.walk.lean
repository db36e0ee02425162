/-! X10_hold public boolean hold(int, boolean); -/
def fX10_hold (n : Nat) (x1 : Int32) (x2 : Int32) (σ : ST) : Option (Int32 × ST) :=
  (Option.bind (fX3_hasReader x1 σ) (fun q_1 => (if q_1.1 = 0 then (some ((0 : Int32), q_1.2)) else (Option.bind (fX3_isHeld x1 q_1.2) (fun q_3 => (if q_3.1 = x2 then (some ((0 : Int32), q_3.2)) else (lt (sI q_3.2 16 ((gI q_3.2 16) ^^^ (((1 : Int32)) <<< (x1 &&& 31)))) (fun σ_5 => (if x2 = 0 then (Option.bind (fX3_catchUp n x1 (gI σ_5 20) σ_5) (fun q_7 => (some ((1 : Int32), q_7)))) else (some ((1 : Int32), σ_5)))))))))))
section WK
variable {p : Program} {l : Launch} {e : Env} {R : Room} {s : State} {m : MethodId} {args : Array Value} {below : List Frame} {meth : Method} {c : Code} {Q : State → Prop}
variable {D : va_G} {ad : Nat → Nat} {cI cJ cB cZ : ClassId} {A : Nat → Prop} {cc : ByteArray} {nL lev : Nat}
variable {σ : ST} {pc : Nat} {lv : List (Nat × Value)} {st : List Value}
set_option maxHeartbeats 4000000 in
set_option maxRecDepth 100000 in
theorem kX10_hold {l : Launch} {D : va_G} {ad : Nat → Nat} {cI cJ cB cZ : ClassId}  {n : Nat} {x1 : Int32} {x2 : Int32} {σ : ST} {res : Int32 × ST} (h : fX10_hold n x1 x2 σ = some res) : CMi l D (tyz cI cJ cB cZ) (wX ad cI cJ cB cZ) 3 yX10_hold cX10_hold 3 (some .boolean) [.ref (ad 0), .int x1, .int x2] σ res := by
  refine cmi_body (own := RX10) (lv := [(0, .ref (ad 0)), (1, .int x1), (2, .int x2)]) (by decide) rfl (wX_addr _ _ _ _ _) (Nat.le_of_ble_eq_true rfl) rfl (fun p e s m args below meth c A C hr => ?_)
  unfold fX10_hold at h
  refine g_aload_n C dX10_hold_0 rfl 0 rfl 1 rfl ?_
  refine wgX10_58_0 C dX10_hold_1 4 rfl ?_
  refine g_iload_n C dX10_hold_4 rfl 1 rfl 5 rfl ?_
  obtain ⟨q_1, hq_1, h⟩ := o_bind h
  refine wcX10_142_X_47 C (kX3_hasReader hq_1) (by decide) (Nat.le_of_ble_eq_true rfl) dX10_hold_5 8 rfl ?_
  refine g_if_eq C 23 dX10_hold_8 (by decide) 11 rfl (fun c_2 => ?_) (fun c_2 => ?_)
  · have h := o_pos h c_2
    refine g_iconst C (v := 0) dX10_hold_23 (by decide) 24 rfl ?_
    exact g_zret C hr (by decide) dX10_hold_24 h
  · have h := o_neg h c_2
    refine g_aload_n C dX10_hold_11 rfl 0 rfl 12 rfl ?_
    refine wgX10_58_0 C dX10_hold_12 15 rfl ?_
    refine g_iload_n C dX10_hold_15 rfl 1 rfl 16 rfl ?_
    obtain ⟨q_3, hq_3, h⟩ := o_bind h
    refine wcX10_149_X_47 C (kX3_isHeld hq_3) (by decide) (Nat.le_of_ble_eq_true rfl) dX10_hold_16 19 rfl ?_
    refine g_iload_n C dX10_hold_19 rfl 2 rfl 20 rfl ?_
    refine g_icmp_ne C 25 dX10_hold_20 (by decide) 23 rfl (fun c_4 => ?_) (fun c_4 => ?_)
    · have h := o_neg h c_4
      refine g_aload_n C dX10_hold_25 rfl 0 rfl 26 rfl ?_
      refine wgX10_58_0 C dX10_hold_26 29 rfl ?_
      refine g_dup C dX10_hold_29 rfl 30 rfl ?_
      refine wgX10_152_47 C dX10_hold_30 33 rfl ?_
      refine g_iconst C (v := 1) dX10_hold_33 (by decide) 34 rfl ?_
      refine g_iload_n C dX10_hold_34 rfl 1 rfl 35 rfl ?_
      refine g_ishl C dX10_hold_35 36 rfl ?_
      refine g_ixor C dX10_hold_36 37 rfl ?_
      obtain ⟨σ_5, eσ_5, h⟩ := o_lt h
      refine wpX10_152_47 C eσ_5 dX10_hold_37 40 rfl ?_
      refine g_iload_n C dX10_hold_40 rfl 2 rfl 41 rfl ?_
      refine g_if_ne C 59 dX10_hold_41 (by decide) 44 rfl (fun c_6 => ?_) (fun c_6 => ?_)
      · have h := o_neg h c_6
        refine g_iconst C (v := 1) dX10_hold_59 (by decide) 60 rfl ?_
        exact g_zret C hr (by decide) dX10_hold_60 h
      · have h := o_pos h c_6
        refine g_aload_n C dX10_hold_44 rfl 0 rfl 45 rfl ?_
        refine wgX10_58_0 C dX10_hold_45 48 rfl ?_
        refine g_iload_n C dX10_hold_48 rfl 1 rfl 49 rfl ?_
        refine g_aload_n C dX10_hold_49 rfl 0 rfl 50 rfl ?_
        refine wgX10_67_0 C dX10_hold_50 53 rfl ?_
        refine wgX10_155_52 C dX10_hold_53 56 rfl ?_
        obtain ⟨q_7, hq_7, h⟩ := o_bind h
        refine wcX10_158_X_47 C (kX3_catchUp hq_7) (by decide) (Nat.le_of_ble_eq_true rfl) dX10_hold_56 59 rfl ?_
        refine g_iconst C (v := 1) dX10_hold_59 (by decide) 60 rfl ?_
        exact g_zret C hr (by decide) dX10_hold_60 h
    · have h := o_pos h c_4
      refine g_iconst C (v := 0) dX10_hold_23 (by decide) 24 rfl ?_
      exact g_zret C hr (by decide) dX10_hold_24 h
end WK
/-! X4_hasStep boolean hasStep(int); -/
def fX4_hasStep (x1 : Int32) (σ : ST) : Option (Int32 × ST) :=
  (if x1 < 0 then (some ((0 : Int32), σ)) else (if (gI σ 10) ≤ x1 then (some ((0 : Int32), σ)) else (if ((7 : Int32)) ≤ x1 then (some ((0 : Int32), σ)) else (some ((1 : Int32), σ)))))
section WK
variable {p : Program} {l : Launch} {e : Env} {R : Room} {s : State} {m : MethodId} {args : Array Value} {below : List Frame} {meth : Method} {c : Code} {Q : State → Prop}
variable {D : va_G} {ad : Nat → Nat} {cI cJ cB cZ : ClassId} {A : Nat → Prop} {cc : ByteArray} {nL lev : Nat}
variable {σ : ST} {pc : Nat} {lv : List (Nat × Value)} {st : List Value}
set_option maxHeartbeats 4000000 in
set_option maxRecDepth 100000 in
theorem kX4_hasStep {l : Launch} {D : va_G} {ad : Nat → Nat} {cI cJ cB cZ : ClassId}  {x1 : Int32} {σ : ST} {res : Int32 × ST} (h : fX4_hasStep x1 σ = some res) : CMi l D (tyz cI cJ cB cZ) (wX ad cI cJ cB cZ) 0 yX4_hasStep cX4_hasStep 2 (some .boolean) [.ref (ad 19), .int x1] σ res := by
  refine cmi_body (own := RX4) (lv := [(0, .ref (ad 19)), (1, .int x1)]) (by decide) rfl (wX_addr _ _ _ _ _) (Nat.le_of_ble_eq_true rfl) rfl (fun p e s m args below meth c A C hr => ?_)
  unfold fX4_hasStep at h
  refine g_iload_n C dX4_hasStep_0 rfl 1 rfl 1 rfl ?_
  refine g_if_lt C 22 dX4_hasStep_1 (by decide) 4 rfl (fun c_1 => ?_) (fun c_1 => ?_)
  · have h := o_pos h c_1
    refine g_iconst C (v := 0) dX4_hasStep_22 (by decide) 23 rfl ?_
    exact g_zret C hr (by decide) dX4_hasStep_23 h
  · have h := o_neg h c_1
    refine g_iload_n C dX4_hasStep_4 rfl 1 rfl 5 rfl ?_
    refine g_aload_n C dX4_hasStep_5 rfl 0 rfl 6 rfl ?_
    refine wgX4_9_19 C dX4_hasStep_6 9 rfl ?_
    refine g_icmp_ge C 22 dX4_hasStep_9 (by decide) 12 rfl (fun c_2 => ?_) (fun c_2 => ?_)
    · have h := o_pos h c_2
      refine g_iconst C (v := 0) dX4_hasStep_22 (by decide) 23 rfl ?_
      exact g_zret C hr (by decide) dX4_hasStep_23 h
    · have h := o_neg h c_2
      refine g_iload_n C dX4_hasStep_12 rfl 1 rfl 13 rfl ?_
      refine g_bipush C (v := 7) dX4_hasStep_13 (by decide) 15 rfl ?_
      refine g_icmp_ge C 22 dX4_hasStep_15 (by decide) 18 rfl (fun c_3 => ?_) (fun c_3 => ?_)
      · have h := o_pos h c_3
        refine g_iconst C (v := 0) dX4_hasStep_22 (by decide) 23 rfl ?_
        exact g_zret C hr (by decide) dX4_hasStep_23 h
      · have h := o_neg h c_3
        refine g_iconst C (v := 1) dX4_hasStep_18 (by decide) 19 rfl ?_
        refine g_goto C 23 dX4_hasStep_19 (by decide) ?_
        exact g_zret C hr (by decide) dX4_hasStep_23 h
end WK
/-! X4_isReport boolean isReport(int); -/
def fX4_isReport (x1 : Int32) (σ : ST) : Option (Int32 × ST) :=
  (if (((gI σ 11) >>> (x1 &&& 31)) &&& ((1 : Int32))) = 0 then (some ((0 : Int32), σ)) else (some ((1 : Int32), σ)))
section WK
variable {p : Program} {l : Launch} {e : Env} {R : Room} {s : State} {m : MethodId} {args : Array Value} {below : List Frame} {meth : Method} {c : Code} {Q : State → Prop}
variable {D : va_G} {ad : Nat → Nat} {cI cJ cB cZ : ClassId} {A : Nat → Prop} {cc : ByteArray} {nL lev : Nat}
variable {σ : ST} {pc : Nat} {lv : List (Nat × Value)} {st : List Value}
set_option maxHeartbeats 4000000 in
set_option maxRecDepth 100000 in
theorem kX4_isReport {l : Launch} {D : va_G} {ad : Nat → Nat} {cI cJ cB cZ : ClassId}  {x1 : Int32} {σ : ST} {res : Int32 × ST} (h : fX4_isReport x1 σ = some res) : CMi l D (tyz cI cJ cB cZ) (wX ad cI cJ cB cZ) 0 yX4_isReport cX4_isReport 2 (some .boolean) [.ref (ad 19), .int x1] σ res := by
  refine cmi_body (own := RX4) (lv := [(0, .ref (ad 19)), (1, .int x1)]) (by decide) rfl (wX_addr _ _ _ _ _) (Nat.le_of_ble_eq_true rfl) rfl (fun p e s m args below meth c A C hr => ?_)
  unfold fX4_isReport at h
  refine g_aload_n C dX4_isReport_0 rfl 0 rfl 1 rfl ?_
  refine wgX4_15_19 C dX4_isReport_1 4 rfl ?_
  refine g_iload_n C dX4_isReport_4 rfl 1 rfl 5 rfl ?_
  refine g_ishr C dX4_isReport_5 6 rfl ?_
  refine g_iconst C (v := 1) dX4_isReport_6 (by decide) 7 rfl ?_
  refine g_iand C dX4_isReport_7 8 rfl ?_
  refine g_if_eq C 15 dX4_isReport_8 (by decide) 11 rfl (fun c_1 => ?_) (fun c_1 => ?_)
  · have h := o_pos h c_1
    refine g_iconst C (v := 0) dX4_isReport_15 (by decide) 16 rfl ?_
    exact g_zret C hr (by decide) dX4_isReport_16 h
  · have h := o_neg h c_1
    refine g_iconst C (v := 1) dX4_isReport_11 (by decide) 12 rfl ?_
    refine g_goto C 16 dX4_isReport_12 (by decide) ?_
    exact g_zret C hr (by decide) dX4_isReport_16 h
end WK
/-! X4_hasReport boolean hasReport(int); -/
def fX4_hasReport (x1 : Int32) (σ : ST) : Option (Int32 × ST) :=
  (Option.bind (fX4_hasStep x1 σ) (fun q_1 => (if q_1.1 = 0 then (some ((0 : Int32), q_1.2)) else (Option.bind (fX4_isReport x1 q_1.2) (fun q_3 => (if q_3.1 = 0 then (some ((0 : Int32), q_3.2)) else (some ((1 : Int32), q_3.2))))))))
section WK
variable {p : Program} {l : Launch} {e : Env} {R : Room} {s : State} {m : MethodId} {args : Array Value} {below : List Frame} {meth : Method} {c : Code} {Q : State → Prop}
variable {D : va_G} {ad : Nat → Nat} {cI cJ cB cZ : ClassId} {A : Nat → Prop} {cc : ByteArray} {nL lev : Nat}
variable {σ : ST} {pc : Nat} {lv : List (Nat × Value)} {st : List Value}
set_option maxHeartbeats 4000000 in
set_option maxRecDepth 100000 in
theorem kX4_hasReport {l : Launch} {D : va_G} {ad : Nat → Nat} {cI cJ cB cZ : ClassId}  {x1 : Int32} {σ : ST} {res : Int32 × ST} (h : fX4_hasReport x1 σ = some res) : CMi l D (tyz cI cJ cB cZ) (wX ad cI cJ cB cZ) 1 yX4_hasReport cX4_hasReport 2 (some .boolean) [.ref (ad 19), .int x1] σ res := by
  refine cmi_body (own := RX4) (lv := [(0, .ref (ad 19)), (1, .int x1)]) (by decide) rfl (wX_addr _ _ _ _ _) (Nat.le_of_ble_eq_true rfl) rfl (fun p e s m args below meth c A C hr => ?_)
  unfold fX4_hasReport at h
  refine g_aload_n C dX4_hasReport_0 rfl 0 rfl 1 rfl ?_
  refine g_iload_n C dX4_hasReport_1 rfl 1 rfl 2 rfl ?_
  obtain ⟨q_1, hq_1, h⟩ := o_bind h
  refine wcX4_53_X_19 C (kX4_hasStep hq_1) (by decide) (Nat.le_of_ble_eq_true rfl) dX4_hasReport_2 5 rfl ?_
  refine g_if_eq C 20 dX4_hasReport_5 (by decide) 8 rfl (fun c_2 => ?_) (fun c_2 => ?_)
  · have h := o_pos h c_2
    refine g_iconst C (v := 0) dX4_hasReport_20 (by decide) 21 rfl ?_
    exact g_zret C hr (by decide) dX4_hasReport_21 h
  · have h := o_neg h c_2
    refine g_aload_n C dX4_hasReport_8 rfl 0 rfl 9 rfl ?_
    refine g_iload_n C dX4_hasReport_9 rfl 1 rfl 10 rfl ?_
    obtain ⟨q_3, hq_3, h⟩ := o_bind h
    refine wcX4_57_X_19 C (kX4_isReport hq_3) (by decide) (Nat.le_of_ble_eq_true rfl) dX4_hasReport_10 13 rfl ?_
    refine g_if_eq C 20 dX4_hasReport_13 (by decide) 16 rfl (fun c_4 => ?_) (fun c_4 => ?_)
    · have h := o_pos h c_4
      refine g_iconst C (v := 0) dX4_hasReport_20 (by decide) 21 rfl ?_
      exact g_zret C hr (by decide) dX4_hasReport_21 h
    · have h := o_neg h c_4
      refine g_iconst C (v := 1) dX4_hasReport_16 (by decide) 17 rfl ?_
      refine g_goto C 21 dX4_hasReport_17 (by decide) ?_
      exact g_zret C hr (by decide) dX4_hasReport_21 h
end WK
/-! X10_reads public boolean reads(int, int); -/
def fX10_reads (x1 : Int32) (x2 : Int32) (σ : ST) : Option (Int32 × ST) :=
  (Option.bind (fX4_hasReport x1 σ) (fun q_1 => (if q_1.1 = 0 then (some ((0 : Int32), q_1.2)) else (Option.bind (fX3_hasReader x2 q_1.2) (fun q_3 => (if q_3.1 = 0 then (some ((0 : Int32), q_3.2)) else (Option.bind (fX3_isRead x1 x2 q_3.2) (fun q_5 => (if q_5.1 = 0 then (if ix x1 7 then (if ix x1 7 then (lt (stA q_5.2 49 x1 ((ldA q_5.2 49 x1) ||| (((1 : Int32)) <<< (x2 &&& 31)))) (fun σ_9 => (some ((1 : Int32), σ_9)))) else none) else none) else (some ((0 : Int32), q_5.2)))))))))))
section WK
variable {p : Program} {l : Launch} {e : Env} {R : Room} {s : State} {m : MethodId} {args : Array Value} {below : List Frame} {meth : Method} {c : Code} {Q : State → Prop}
variable {D : va_G} {ad : Nat → Nat} {cI cJ cB cZ : ClassId} {A : Nat → Prop} {cc : ByteArray} {nL lev : Nat}
variable {σ : ST} {pc : Nat} {lv : List (Nat × Value)} {st : List Value}
set_option maxHeartbeats 4000000 in
set_option maxRecDepth 100000 in
theorem kX10_reads {l : Launch} {D : va_G} {ad : Nat → Nat} {cI cJ cB cZ : ClassId}  {x1 : Int32} {x2 : Int32} {σ : ST} {res : Int32 × ST} (h : fX10_reads x1 x2 σ = some res) : CMi l D (tyz cI cJ cB cZ) (wX ad cI cJ cB cZ) 2 yX10_reads cX10_reads 3 (some .boolean) [.ref (ad 0), .int x1, .int x2] σ res := by
  refine cmi_body (own := RX10) (lv := [(0, .ref (ad 0)), (1, .int x1), (2, .int x2)]) (by decide) rfl (wX_addr _ _ _ _ _) (Nat.le_of_ble_eq_true rfl) rfl (fun p e s m args below meth c A C hr => ?_)
  unfold fX10_reads at h
  refine g_aload_n C dX10_reads_0 rfl 0 rfl 1 rfl ?_
  refine wgX10_37_0 C dX10_reads_1 4 rfl ?_
  refine g_iload_n C dX10_reads_4 rfl 1 rfl 5 rfl ?_
  obtain ⟨q_1, hq_1, h⟩ := o_bind h
  refine wcX10_162_X_19 C (kX4_hasReport hq_1) (by decide) (Nat.le_of_ble_eq_true rfl) dX10_reads_5 8 rfl ?_
  refine g_if_eq C 34 dX10_reads_8 (by decide) 11 rfl (fun c_2 => ?_) (fun c_2 => ?_)
  · have h := o_pos h c_2
    refine g_iconst C (v := 0) dX10_reads_34 (by decide) 35 rfl ?_
    exact g_zret C hr (by decide) dX10_reads_35 h
  · have h := o_neg h c_2
    refine g_aload_n C dX10_reads_11 rfl 0 rfl 12 rfl ?_
    refine wgX10_58_0 C dX10_reads_12 15 rfl ?_
    refine g_iload_n C dX10_reads_15 rfl 2 rfl 16 rfl ?_
    obtain ⟨q_3, hq_3, h⟩ := o_bind h
    refine wcX10_142_X_47 C (kX3_hasReader hq_3) (by decide) (Nat.le_of_ble_eq_true rfl) dX10_reads_16 19 rfl ?_
    refine g_if_eq C 34 dX10_reads_19 (by decide) 22 rfl (fun c_4 => ?_) (fun c_4 => ?_)
    · have h := o_pos h c_4
      refine g_iconst C (v := 0) dX10_reads_34 (by decide) 35 rfl ?_
      exact g_zret C hr (by decide) dX10_reads_35 h
    · have h := o_neg h c_4
      refine g_aload_n C dX10_reads_22 rfl 0 rfl 23 rfl ?_
      refine wgX10_58_0 C dX10_reads_23 26 rfl ?_
      refine g_iload_n C dX10_reads_26 rfl 1 rfl 27 rfl ?_
      refine g_iload_n C dX10_reads_27 rfl 2 rfl 28 rfl ?_
      obtain ⟨q_5, hq_5, h⟩ := o_bind h
      refine wcX10_165_X_47 C (kX3_isRead hq_5) (by decide) (Nat.le_of_ble_eq_true rfl) dX10_reads_28 31 rfl ?_
      refine g_if_eq C 36 dX10_reads_31 (by decide) 34 rfl (fun c_6 => ?_) (fun c_6 => ?_)
      · have h := o_pos h c_6
        refine g_aload_n C dX10_reads_36 rfl 0 rfl 37 rfl ?_
        refine wgX10_58_0 C dX10_reads_37 40 rfl ?_
        refine wgX10_168_47 C dX10_reads_40 43 rfl ?_
        refine g_iload_n C dX10_reads_43 rfl 1 rfl 44 rfl ?_
        refine g_dup2 C dX10_reads_44 rfl rfl 45 rfl ?_
        obtain ⟨c_7, h⟩ := o_chk h
        refine wlX_49 C c_7 dX10_reads_45 46 rfl ?_
        refine g_iconst C (v := 1) dX10_reads_46 (by decide) 47 rfl ?_
        refine g_iload_n C dX10_reads_47 rfl 2 rfl 48 rfl ?_
        refine g_ishl C dX10_reads_48 49 rfl ?_
        refine g_ior C dX10_reads_49 50 rfl ?_
        obtain ⟨c_8, h⟩ := o_chk h
        obtain ⟨σ_9, eσ_9, h⟩ := o_lt h
        refine wtX_49 C eσ_9 c_8 dX10_reads_50 51 rfl ?_
        refine g_iconst C (v := 1) dX10_reads_51 (by decide) 52 rfl ?_
        exact g_zret C hr (by decide) dX10_reads_52 h
      · have h := o_neg h c_6
        refine g_iconst C (v := 0) dX10_reads_34 (by decide) 35 rfl ?_
        exact g_zret C hr (by decide) dX10_reads_35 h
end WK
/-! X10_hosts public boolean hosts(int); -/
def fX10_hosts (x1 : Int32) (σ : ST) : Option (Int32 × ST) :=
  (if x1 < ((1 : Int32)) then (some ((0 : Int32), σ)) else (if ((3 : Int32)) < x1 then (some ((0 : Int32), σ)) else (if (gI σ 21) = 0 then (lt (sI σ 19 x1) (fun σ_4 => (some ((1 : Int32), σ_4)))) else (some ((0 : Int32), σ)))))
section WK
variable {p : Program} {l : Launch} {e : Env} {R : Room} {s : State} {m : MethodId} {args : Array Value} {below : List Frame} {meth : Method} {c : Code} {Q : State → Prop}
variable {D : va_G} {ad : Nat → Nat} {cI cJ cB cZ : ClassId} {A : Nat → Prop} {cc : ByteArray} {nL lev : Nat}
variable {σ : ST} {pc : Nat} {lv : List (Nat × Value)} {st : List Value}
set_option maxHeartbeats 4000000 in
set_option maxRecDepth 100000 in
theorem kX10_hosts {l : Launch} {D : va_G} {ad : Nat → Nat} {cI cJ cB cZ : ClassId}  {x1 : Int32} {σ : ST} {res : Int32 × ST} (h : fX10_hosts x1 σ = some res) : CMi l D (tyz cI cJ cB cZ) (wX ad cI cJ cB cZ) 0 yX10_hosts cX10_hosts 2 (some .boolean) [.ref (ad 0), .int x1] σ res := by
  refine cmi_body (own := RX10) (lv := [(0, .ref (ad 0)), (1, .int x1)]) (by decide) rfl (wX_addr _ _ _ _ _) (Nat.le_of_ble_eq_true rfl) rfl (fun p e s m args below meth c A C hr => ?_)
  unfold fX10_hosts at h
  refine g_iload_n C dX10_hosts_0 rfl 1 rfl 1 rfl ?_
  refine g_iconst C (v := 1) dX10_hosts_1 (by decide) 2 rfl ?_
  refine g_icmp_lt C 20 dX10_hosts_2 (by decide) 5 rfl (fun c_1 => ?_) (fun c_1 => ?_)
  · have h := o_pos h c_1
    refine g_iconst C (v := 0) dX10_hosts_20 (by decide) 21 rfl ?_
    exact g_zret C hr (by decide) dX10_hosts_21 h
  · have h := o_neg h c_1
    refine g_iload_n C dX10_hosts_5 rfl 1 rfl 6 rfl ?_
    refine g_iconst C (v := 3) dX10_hosts_6 (by decide) 7 rfl ?_
    refine g_icmp_gt C 20 dX10_hosts_7 (by decide) 10 rfl (fun c_2 => ?_) (fun c_2 => ?_)
    · have h := o_pos h c_2
      refine g_iconst C (v := 0) dX10_hosts_20 (by decide) 21 rfl ?_
      exact g_zret C hr (by decide) dX10_hosts_21 h
    · have h := o_neg h c_2
      refine g_aload_n C dX10_hosts_10 rfl 0 rfl 11 rfl ?_
      refine wgX10_67_0 C dX10_hosts_11 14 rfl ?_
      refine wgX10_171_52 C dX10_hosts_14 17 rfl ?_
      refine g_if_eq C 22 dX10_hosts_17 (by decide) 20 rfl (fun c_3 => ?_) (fun c_3 => ?_)
      · have h := o_pos h c_3
        refine g_aload_n C dX10_hosts_22 rfl 0 rfl 23 rfl ?_
        refine wgX10_67_0 C dX10_hosts_23 26 rfl ?_
        refine g_iload_n C dX10_hosts_26 rfl 1 rfl 27 rfl ?_
        obtain ⟨σ_4, eσ_4, h⟩ := o_lt h
        refine wpX10_174_52 C eσ_4 dX10_hosts_27 30 rfl ?_
        refine g_iconst C (v := 1) dX10_hosts_30 (by decide) 31 rfl ?_
        exact g_zret C hr (by decide) dX10_hosts_31 h
      · have h := o_neg h c_3
        refine g_iconst C (v := 0) dX10_hosts_20 (by decide) 21 rfl ?_
        exact g_zret C hr (by decide) dX10_hosts_21 h
end WK
/-! X9_isDone boolean isDone(int); -/
def fX9_isDone (x1 : Int32) (σ : ST) : Option (Int32 × ST) :=
  (if (((gI σ 20) >>> (x1 &&& 31)) &&& ((1 : Int32))) = 0 then (some ((0 : Int32), σ)) else (some ((1 : Int32), σ)))
section WK
variable {p : Program} {l : Launch} {e : Env} {R : Room} {s : State} {m : MethodId} {args : Array Value} {below : List Frame} {meth : Method} {c : Code} {Q : State → Prop}
variable {D : va_G} {ad : Nat → Nat} {cI cJ cB cZ : ClassId} {A : Nat → Prop} {cc : ByteArray} {nL lev : Nat}
variable {σ : ST} {pc : Nat} {lv : List (Nat × Value)} {st : List Value}
set_option maxHeartbeats 4000000 in
set_option maxRecDepth 100000 in
theorem kX9_isDone {l : Launch} {D : va_G} {ad : Nat → Nat} {cI cJ cB cZ : ClassId}  {x1 : Int32} {σ : ST} {res : Int32 × ST} (h : fX9_isDone x1 σ = some res) : CMi l D (tyz cI cJ cB cZ) (wX ad cI cJ cB cZ) 0 yX9_isDone cX9_isDone 2 (some .boolean) [.ref (ad 52), .int x1] σ res := by
  refine cmi_body (own := RX9) (lv := [(0, .ref (ad 52)), (1, .int x1)]) (by decide) rfl (wX_addr _ _ _ _ _) (Nat.le_of_ble_eq_true rfl) rfl (fun p e s m args below meth c A C hr => ?_)
  unfold fX9_isDone at h
  refine g_aload_n C dX9_isDone_0 rfl 0 rfl 1 rfl ?_
  refine wgX9_18_52 C dX9_isDone_1 4 rfl ?_
  refine g_iload_n C dX9_isDone_4 rfl 1 rfl 5 rfl ?_
  refine g_ishr C dX9_isDone_5 6 rfl ?_
  refine g_iconst C (v := 1) dX9_isDone_6 (by decide) 7 rfl ?_
  refine g_iand C dX9_isDone_7 8 rfl ?_
  refine g_if_eq C 15 dX9_isDone_8 (by decide) 11 rfl (fun c_1 => ?_) (fun c_1 => ?_)
  · have h := o_pos h c_1
    refine g_iconst C (v := 0) dX9_isDone_15 (by decide) 16 rfl ?_
    exact g_zret C hr (by decide) dX9_isDone_16 h
  · have h := o_neg h c_1
    refine g_iconst C (v := 1) dX9_isDone_11 (by decide) 12 rfl ?_
    refine g_goto C 16 dX9_isDone_12 (by decide) ?_
    exact g_zret C hr (by decide) dX9_isDone_16 h
end WK
/-! X9_isReady private boolean isReady(int); -/
def fX9_isReady (x1 : Int32) (σ : ST) : Option (Int32 × ST) :=
  (Option.bind (fX4_hasStep x1 σ) (fun q_1 => (if q_1.1 = 0 then (some ((0 : Int32), q_1.2)) else (Option.bind (fX9_isDone x1 q_1.2) (fun q_3 => (if q_3.1 = 0 then (Option.bind (fX9_isUnderWay x1 q_3.2) (fun q_5 => (if q_5.1 = 0 then (if ix x1 7 then (if ((ldA q_5.2 24 x1) &&& ((gI q_5.2 13) ^^^ ((-1 : Int32)))) = 0 then (if ix x1 7 then (if ((ldA q_5.2 25 x1) &&& ((gI q_5.2 20) ^^^ ((-1 : Int32)))) = 0 then (some ((1 : Int32), q_5.2)) else (some ((0 : Int32), q_5.2))) else none) else (some ((0 : Int32), q_5.2))) else none) else (some ((0 : Int32), q_5.2))))) else (some ((0 : Int32), q_3.2))))))))
section WK
variable {p : Program} {l : Launch} {e : Env} {R : Room} {s : State} {m : MethodId} {args : Array Value} {below : List Frame} {meth : Method} {c : Code} {Q : State → Prop}
variable {D : va_G} {ad : Nat → Nat} {cI cJ cB cZ : ClassId} {A : Nat → Prop} {cc : ByteArray} {nL lev : Nat}
variable {σ : ST} {pc : Nat} {lv : List (Nat × Value)} {st : List Value}
set_option maxHeartbeats 4000000 in
set_option maxRecDepth 100000 in
theorem kX9_isReady {l : Launch} {D : va_G} {ad : Nat → Nat} {cI cJ cB cZ : ClassId}  {x1 : Int32} {σ : ST} {res : Int32 × ST} (h : fX9_isReady x1 σ = some res) : CMi l D (tyz cI cJ cB cZ) (wX ad cI cJ cB cZ) 1 yX9_isReady cX9_isReady 2 (some .boolean) [.ref (ad 52), .int x1] σ res := by
  refine cmi_body (own := RX9) (lv := [(0, .ref (ad 52)), (1, .int x1)]) (by decide) rfl (wX_addr _ _ _ _ _) (Nat.le_of_ble_eq_true rfl) rfl (fun p e s m args below meth c A C hr => ?_)
  unfold fX9_isReady at h
  refine g_aload_n C dX9_isReady_0 rfl 0 rfl 1 rfl ?_
  refine wgX9_40_52 C dX9_isReady_1 4 rfl ?_
  refine g_iload_n C dX9_isReady_4 rfl 1 rfl 5 rfl ?_
  obtain ⟨q_1, hq_1, h⟩ := o_bind h
  refine wcX9_79_X_19 C (kX4_hasStep hq_1) (by decide) (Nat.le_of_ble_eq_true rfl) dX9_isReady_5 8 rfl ?_
  refine g_if_eq C 72 dX9_isReady_8 (by decide) 11 rfl (fun c_2 => ?_) (fun c_2 => ?_)
  · have h := o_pos h c_2
    refine g_iconst C (v := 0) dX9_isReady_72 (by decide) 73 rfl ?_
    exact g_zret C hr (by decide) dX9_isReady_73 h
  · have h := o_neg h c_2
    refine g_aload_n C dX9_isReady_11 rfl 0 rfl 12 rfl ?_
    refine g_iload_n C dX9_isReady_12 rfl 1 rfl 13 rfl ?_
    obtain ⟨q_3, hq_3, h⟩ := o_bind h
    refine wcX9_85_X_52 C (kX9_isDone hq_3) (by decide) (Nat.le_of_ble_eq_true rfl) dX9_isReady_13 16 rfl ?_
    refine g_if_ne C 72 dX9_isReady_16 (by decide) 19 rfl (fun c_4 => ?_) (fun c_4 => ?_)
    · have h := o_neg h c_4
      refine g_iconst C (v := 0) dX9_isReady_72 (by decide) 73 rfl ?_
      exact g_zret C hr (by decide) dX9_isReady_73 h
    · have h := o_pos h c_4
      refine g_aload_n C dX9_isReady_19 rfl 0 rfl 20 rfl ?_
      refine g_iload_n C dX9_isReady_20 rfl 1 rfl 21 rfl ?_
      obtain ⟨q_5, hq_5, h⟩ := o_bind h
      refine wcX9_64_X_52 C (kX9_isUnderWay hq_5) (by decide) (Nat.le_of_ble_eq_true rfl) dX9_isReady_21 24 rfl ?_
      refine g_if_ne C 72 dX9_isReady_24 (by decide) 27 rfl (fun c_6 => ?_) (fun c_6 => ?_)
      · have h := o_neg h c_6
        refine g_iconst C (v := 0) dX9_isReady_72 (by decide) 73 rfl ?_
        exact g_zret C hr (by decide) dX9_isReady_73 h
      · have h := o_pos h c_6
        refine g_aload_n C dX9_isReady_27 rfl 0 rfl 28 rfl ?_
        refine wgX9_40_52 C dX9_isReady_28 31 rfl ?_
        refine wgX9_88_19 C dX9_isReady_31 34 rfl ?_
        refine g_iload_n C dX9_isReady_34 rfl 1 rfl 35 rfl ?_
        obtain ⟨c_7, h⟩ := o_chk h
        refine wlX_24 C c_7 dX9_isReady_35 36 rfl ?_
        refine g_aload_n C dX9_isReady_36 rfl 0 rfl 37 rfl ?_
        refine wgX9_44_52 C dX9_isReady_37 40 rfl ?_
        refine wgX9_91_30 C dX9_isReady_40 43 rfl ?_
        refine g_iconst C (v := -1) dX9_isReady_43 (by decide) 44 rfl ?_
        refine g_ixor C dX9_isReady_44 45 rfl ?_
        refine g_iand C dX9_isReady_45 46 rfl ?_
        refine g_if_ne C 72 dX9_isReady_46 (by decide) 49 rfl (fun c_8 => ?_) (fun c_8 => ?_)
        · have h := o_neg h c_8
          refine g_iconst C (v := 0) dX9_isReady_72 (by decide) 73 rfl ?_
          exact g_zret C hr (by decide) dX9_isReady_73 h
        · have h := o_pos h c_8
          refine g_aload_n C dX9_isReady_49 rfl 0 rfl 50 rfl ?_
          refine wgX9_40_52 C dX9_isReady_50 53 rfl ?_
          refine wgX9_96_19 C dX9_isReady_53 56 rfl ?_
          refine g_iload_n C dX9_isReady_56 rfl 1 rfl 57 rfl ?_
          obtain ⟨c_9, h⟩ := o_chk h
          refine wlX_25 C c_9 dX9_isReady_57 58 rfl ?_
          refine g_aload_n C dX9_isReady_58 rfl 0 rfl 59 rfl ?_
          refine wgX9_18_52 C dX9_isReady_59 62 rfl ?_
          refine g_iconst C (v := -1) dX9_isReady_62 (by decide) 63 rfl ?_
          refine g_ixor C dX9_isReady_63 64 rfl ?_
          refine g_iand C dX9_isReady_64 65 rfl ?_
          refine g_if_ne C 72 dX9_isReady_65 (by decide) 68 rfl (fun c_10 => ?_) (fun c_10 => ?_)
          · have h := o_neg h c_10
            refine g_iconst C (v := 0) dX9_isReady_72 (by decide) 73 rfl ?_
            exact g_zret C hr (by decide) dX9_isReady_73 h
          · have h := o_pos h c_10
            refine g_iconst C (v := 1) dX9_isReady_68 (by decide) 69 rfl ?_
            refine g_goto C 73 dX9_isReady_69 (by decide) ?_
            exact g_zret C hr (by decide) dX9_isReady_73 h
end WK
/-! X9_firstReady private int firstReady(); -/
def fX9_firstReady_L2  : Nat → Int32 → ST → Option (Int32 × ST)
  | 0, _, _ => none
  | n + 1, x1, σ => (if (gI σ 10) ≤ x1 then (some ((-1 : Int32), σ)) else (if ix x1 7 then (Option.bind (fX9_isReady (ldA σ 54 x1) σ) (fun q_4 => (if q_4.1 = 0 then (lt (x1 + 1) (fun x1_6 => (fX9_firstReady_L2 n x1_6 q_4.2))) else (if ix x1 7 then (some (ldA q_4.2 54 x1, q_4.2)) else none)))) else none))
def fX9_firstReady (n : Nat)  (σ : ST) : Option (Int32 × ST) :=
  (lt ((0 : Int32)) (fun x1_1 => (fX9_firstReady_L2 n x1_1 σ)))
section WK
variable {p : Program} {l : Launch} {e : Env} {R : Room} {s : State} {m : MethodId} {args : Array Value} {below : List Frame} {meth : Method} {c : Code} {Q : State → Prop}
variable {D : va_G} {ad : Nat → Nat} {cI cJ cB cZ : ClassId} {A : Nat → Prop} {cc : ByteArray} {nL lev : Nat}
variable {σ : ST} {pc : Nat} {lv : List (Nat × Value)} {st : List Value}
set_option maxHeartbeats 4000000 in
set_option maxRecDepth 100000 in
theorem kX9_firstReady_L2 (C : Ctx p l e (rmL 2) s m args below meth c D (tyz cI cJ cB cZ) (wX ad cI cJ cB cZ) A cX9_firstReady 2 2 RX9) (hr : meth.sig.returnType = some .int) {res : Int32 × ST}   : ∀ (n : Nat) (x1 : Int32) (σ : ST), fX9_firstReady_L2 n x1 σ = some res → G p l e (rmL 2) s m args below meth c (MQ below (Qi D (tyz cI cJ cB cZ) (wX ad cI cJ cB cZ) A res) args s 0 0 A) D (wX ad cI cJ cB cZ) A 2 σ 2 [(0, .ref (ad 52)), (1, .int x1)] [] := by
  intro n
  induction n with
  | zero => intro x1 σ h; have h : none = some res := h; cases h
  | succ n ih =>
    intro x1 σ h
    rw [fX9_firstReady_L2] at h
    refine g_iload_n C dX9_firstReady_2 rfl 1 rfl 3 rfl ?_
    refine g_aload_n C dX9_firstReady_3 rfl 0 rfl 4 rfl ?_
    refine wgX9_40_52 C dX9_firstReady_4 7 rfl ?_
    refine wgX9_56_19 C dX9_firstReady_7 10 rfl ?_
    refine g_icmp_ge C 39 dX9_firstReady_10 (by decide) 13 rfl (fun c_2 => ?_) (fun c_2 => ?_)
    · have h := o_pos h c_2
      refine g_iconst C (v := -1) dX9_firstReady_39 (by decide) 40 rfl ?_
      exact g_iret C hr dX9_firstReady_40 h
    · have h := o_neg h c_2
      refine g_aload_n C dX9_firstReady_13 rfl 0 rfl 14 rfl ?_
      refine g_aload_n C dX9_firstReady_14 rfl 0 rfl 15 rfl ?_
      refine wgX9_28_52 C dX9_firstReady_15 18 rfl ?_
      refine g_iload_n C dX9_firstReady_18 rfl 1 rfl 19 rfl ?_
      obtain ⟨c_3, h⟩ := o_chk h
      refine wlX_54 C c_3 dX9_firstReady_19 20 rfl ?_
      obtain ⟨q_4, hq_4, h⟩ := o_bind h
      refine wcX9_82_X_52 C (kX9_isReady hq_4) (by decide) (Nat.le_of_ble_eq_true rfl) dX9_firstReady_20 23 rfl ?_
      refine g_if_eq C 33 dX9_firstReady_23 (by decide) 26 rfl (fun c_5 => ?_) (fun c_5 => ?_)
      · have h := o_pos h c_5
        obtain ⟨x1_6, ex1_6, h⟩ := o_lt h
        refine g_iinc C (lv' := [(1, .int x1_6), (0, .ref (ad 52))]) ex1_6 dX9_firstReady_33 1 rfl (by decide) (by decide) rfl 36 rfl ?_
        refine g_goto C 2 dX9_firstReady_36 (by decide) ?_
        exact g_sub C [1, 0] rfl (ih x1_6 q_4.2 h)
      · have h := o_neg h c_5
        refine g_aload_n C dX9_firstReady_26 rfl 0 rfl 27 rfl ?_
        refine wgX9_28_52 C dX9_firstReady_27 30 rfl ?_
        refine g_iload_n C dX9_firstReady_30 rfl 1 rfl 31 rfl ?_
        obtain ⟨c_7, h⟩ := o_chk h
        refine wlX_54 C c_7 dX9_firstReady_31 32 rfl ?_
        exact g_iret C hr dX9_firstReady_32 h
set_option maxHeartbeats 4000000 in
set_option maxRecDepth 100000 in
theorem kX9_firstReady {l : Launch} {D : va_G} {ad : Nat → Nat} {cI cJ cB cZ : ClassId}  {n : Nat}  {σ : ST} {res : Int32 × ST} (h : fX9_firstReady n σ = some res) : CMi l D (tyz cI cJ cB cZ) (wX ad cI cJ cB cZ) 2 yX9_firstReady cX9_firstReady 2 (some .int) [.ref (ad 52)] σ res := by
  refine cmi_body (own := RX9) (lv := [(0, .ref (ad 52))]) (by decide) rfl (wX_addr _ _ _ _ _) (Nat.le_of_ble_eq_true rfl) rfl (fun p e s m args below meth c A C hr => ?_)
  unfold fX9_firstReady at h
  refine g_iconst C (v := 0) dX9_firstReady_0 (by decide) 1 rfl ?_
  obtain ⟨x1_1, ex1_1, h⟩ := o_lt h
  refine g_istore_n C (lv' := [(1, .int x1_1), (0, .ref (ad 52))]) ex1_1 dX9_firstReady_1 rfl (by decide) rfl 2 rfl ?_
  exact g_sub C [1, 0] rfl (kX9_firstReady_L2 C hr  n x1_1 σ h)
end WK
/-! X9_beginAt private void beginAt(int); -/
def fX9_beginAt (n : Nat) (x1 : Int32) (σ : ST) : Option (ST) :=
  (Option.bind (fX9_firstReady n σ) (fun q_1 => (lt (q_1.1) (fun x2_2 => (Option.bind (fX4_hasStep x2_2 q_1.2) (fun q_3 => (if q_3.1 = 0 then (some q_3.2) else (if ix x1 3 then (lt (stA q_3.2 53 x1 x2_2) (fun σ_6 => (lt (sI σ_6 21 ((gI σ_6 21) ||| (((1 : Int32)) <<< (x2_2 &&& 31)))) (fun σ_7 => (if ix x2_2 7 then (lt (stA σ_7 57 x2_2 ((0 : Int32))) (fun σ_9 => (some σ_9))) else none))))) else none))))))))
section WK
variable {p : Program} {l : Launch} {e : Env} {R : Room} {s : State} {m : MethodId} {args : Array Value} {below : List Frame} {meth : Method} {c : Code} {Q : State → Prop}
variable {D : va_G} {ad : Nat → Nat} {cI cJ cB cZ : ClassId} {A : Nat → Prop} {cc : ByteArray} {nL lev : Nat}
variable {σ : ST} {pc : Nat} {lv : List (Nat × Value)} {st : List Value}
set_option maxHeartbeats 4000000 in
set_option maxRecDepth 100000 in
theorem kX9_beginAt {l : Launch} {D : va_G} {ad : Nat → Nat} {cI cJ cB cZ : ClassId}  {n : Nat} {x1 : Int32} {σ : ST} {res : ST} (h : fX9_beginAt n x1 σ = some res) : CMv l D (tyz cI cJ cB cZ) (wX ad cI cJ cB cZ) 3 yX9_beginAt cX9_beginAt 3 none [.ref (ad 52), .int x1] σ res := by
  refine cmv_body (own := RX9) (lv := [(0, .ref (ad 52)), (1, .int x1)]) (by decide) rfl (wX_addr _ _ _ _ _) (Nat.le_of_ble_eq_true rfl) rfl (fun p e s m args below meth c A C hr => ?_)
  unfold fX9_beginAt at h
  refine g_aload_n C dX9_beginAt_0 rfl 0 rfl 1 rfl ?_
  obtain ⟨q_1, hq_1, h⟩ := o_bind h
  refine wcX9_75_X_52 C (kX9_firstReady hq_1) (by decide) (Nat.le_of_ble_eq_true rfl) dX9_beginAt_1 4 rfl ?_
  obtain ⟨x2_2, ex2_2, h⟩ := o_lt h
  refine g_istore_n C (lv' := [(2, .int x2_2), (0, .ref (ad 52)), (1, .int x1)]) ex2_2 dX9_beginAt_4 rfl (by decide) rfl 5 rfl ?_
  refine g_aload_n C dX9_beginAt_5 rfl 1 rfl 6 rfl ?_
  refine wgX9_40_52 C dX9_beginAt_6 9 rfl ?_
  refine g_iload_n C dX9_beginAt_9 rfl 0 rfl 10 rfl ?_
  obtain ⟨q_3, hq_3, h⟩ := o_bind h
  refine wcX9_79_X_19 C (kX4_hasStep hq_3) (by decide) (Nat.le_of_ble_eq_true rfl) dX9_beginAt_10 13 rfl ?_
  refine g_if_eq C 42 dX9_beginAt_13 (by decide) 16 rfl (fun c_4 => ?_) (fun c_4 => ?_)
  · have h := o_pos h c_4
    exact g_vret C hr dX9_beginAt_42 h
  · have h := o_neg h c_4
    refine g_aload_n C dX9_beginAt_16 rfl 1 rfl 17 rfl ?_
    refine wgX9_24_52 C dX9_beginAt_17 20 rfl ?_
    refine g_iload_n C dX9_beginAt_20 rfl 2 rfl 21 rfl ?_
    refine g_iload_n C dX9_beginAt_21 rfl 0 rfl 22 rfl ?_
    obtain ⟨c_5, h⟩ := o_chk h
    obtain ⟨σ_6, eσ_6, h⟩ := o_lt h
    refine wtX_53 C eσ_6 c_5 dX9_beginAt_22 23 rfl ?_
    refine g_aload_n C dX9_beginAt_23 rfl 1 rfl 24 rfl ?_
    refine g_dup C dX9_beginAt_24 rfl 25 rfl ?_
    refine wgX9_21_52 C dX9_beginAt_25 28 rfl ?_
    refine g_iconst C (v := 1) dX9_beginAt_28 (by decide) 29 rfl ?_
    refine g_iload_n C dX9_beginAt_29 rfl 0 rfl 30 rfl ?_
    refine g_ishl C dX9_beginAt_30 31 rfl ?_
    refine g_ior C dX9_beginAt_31 32 rfl ?_
    obtain ⟨σ_7, eσ_7, h⟩ := o_lt h
    refine wpX9_21_52 C eσ_7 dX9_beginAt_32 35 rfl ?_
    refine g_aload_n C dX9_beginAt_35 rfl 1 rfl 36 rfl ?_
    refine wgX9_37_52 C dX9_beginAt_36 39 rfl ?_
    refine g_iload_n C dX9_beginAt_39 rfl 0 rfl 40 rfl ?_
    refine g_iconst C (v := 0) dX9_beginAt_40 (by decide) 41 rfl ?_
    obtain ⟨c_8, h⟩ := o_chk h
    obtain ⟨σ_9, eσ_9, h⟩ := o_lt h
    refine wtX_57 C eσ_9 c_8 dX9_beginAt_41 42 rfl ?_
    exact g_vret C hr dX9_beginAt_42 h
end WK
/-! X4_codeBegin int codeBegin(int); -/
def fX4_codeBegin (x1 : Int32) (σ : ST) : Option (Int32 × ST) :=
  (if x1 ≤ 0 then (some ((0 : Int32), σ)) else (if ((7 : Int32)) ≤ x1 then (some ((0 : Int32), σ)) else (if ix (x1 - ((1 : Int32))) 7 then (some (ldA σ 27 (x1 - ((1 : Int32))), σ)) else none)))
section WK
variable {p : Program} {l : Launch} {e : Env} {R : Room} {s : State} {m : MethodId} {args : Array Value} {below : List Frame} {meth : Method} {c : Code} {Q : State → Prop}
variable {D : va_G} {ad : Nat → Nat} {cI cJ cB cZ : ClassId} {A : Nat → Prop} {cc : ByteArray} {nL lev : Nat}
variable {σ : ST} {pc : Nat} {lv : List (Nat × Value)} {st : List Value}
set_option maxHeartbeats 4000000 in
set_option maxRecDepth 100000 in
theorem kX4_codeBegin {l : Launch} {D : va_G} {ad : Nat → Nat} {cI cJ cB cZ : ClassId}  {x1 : Int32} {σ : ST} {res : Int32 × ST} (h : fX4_codeBegin x1 σ = some res) : CMi l D (tyz cI cJ cB cZ) (wX ad cI cJ cB cZ) 0 yX4_codeBegin cX4_codeBegin 2 (some .int) [.ref (ad 19), .int x1] σ res := by
  refine cmi_body (own := RX4) (lv := [(0, .ref (ad 19)), (1, .int x1)]) (by decide) rfl (wX_addr _ _ _ _ _) (Nat.le_of_ble_eq_true rfl) rfl (fun p e s m args below meth c A C hr => ?_)
  unfold fX4_codeBegin at h
  refine g_iload_n C dX4_codeBegin_0 rfl 1 rfl 1 rfl ?_
  refine g_if_le C 21 dX4_codeBegin_1 (by decide) 4 rfl (fun c_1 => ?_) (fun c_1 => ?_)
  · have h := o_pos h c_1
    refine g_iconst C (v := 0) dX4_codeBegin_21 (by decide) 22 rfl ?_
    exact g_iret C hr dX4_codeBegin_22 h
  · have h := o_neg h c_1
    refine g_iload_n C dX4_codeBegin_4 rfl 1 rfl 5 rfl ?_
    refine g_bipush C (v := 7) dX4_codeBegin_5 (by decide) 7 rfl ?_
    refine g_icmp_ge C 21 dX4_codeBegin_7 (by decide) 10 rfl (fun c_2 => ?_) (fun c_2 => ?_)
    · have h := o_pos h c_2
      refine g_iconst C (v := 0) dX4_codeBegin_21 (by decide) 22 rfl ?_
      exact g_iret C hr dX4_codeBegin_22 h
    · have h := o_neg h c_2
      refine g_aload_n C dX4_codeBegin_10 rfl 0 rfl 11 rfl ?_
      refine wgX4_41_19 C dX4_codeBegin_11 14 rfl ?_
      refine g_iload_n C dX4_codeBegin_14 rfl 1 rfl 15 rfl ?_
      refine g_iconst C (v := 1) dX4_codeBegin_15 (by decide) 16 rfl ?_
      refine g_isub C dX4_codeBegin_16 17 rfl ?_
      obtain ⟨c_3, h⟩ := o_chk h
      refine wlX_27 C c_3 dX4_codeBegin_17 18 rfl ?_
      refine g_goto C 22 dX4_codeBegin_18 (by decide) ?_
      exact g_iret C hr dX4_codeBegin_22 h
end WK
/-! X8_pop private long pop(); -/
def fX8_pop  (σ : ST) : Option (Int64 × ST) :=
  (if 0 < (gI σ 14) then (lt (sI σ 14 ((gI σ 14) - ((1 : Int32)))) (fun σ_2 => (if ix (gI σ_2 14) 400 then (some (ldB σ_2 46 (gI σ_2 14), σ_2)) else none))) else (some ((0 : Int64), σ)))
section WK
variable {p : Program} {l : Launch} {e : Env} {R : Room} {s : State} {m : MethodId} {args : Array Value} {below : List Frame} {meth : Method} {c : Code} {Q : State → Prop}
variable {D : va_G} {ad : Nat → Nat} {cI cJ cB cZ : ClassId} {A : Nat → Prop} {cc : ByteArray} {nL lev : Nat}
variable {σ : ST} {pc : Nat} {lv : List (Nat × Value)} {st : List Value}
set_option maxHeartbeats 4000000 in
set_option maxRecDepth 100000 in
theorem kX8_pop {l : Launch} {D : va_G} {ad : Nat → Nat} {cI cJ cB cZ : ClassId}   {σ : ST} {res : Int64 × ST} (h : fX8_pop σ = some res) : CMl l D (tyz cI cJ cB cZ) (wX ad cI cJ cB cZ) 0 yX8_pop cX8_pop 1 (some .long) [.ref (ad 44)] σ res := by
  refine cml_body (own := RX8) (lv := [(0, .ref (ad 44))]) (by decide) rfl (wX_addr _ _ _ _ _) (Nat.le_of_ble_eq_true rfl) rfl (fun p e s m args below meth c A C hr => ?_)
  unfold fX8_pop at h
  refine g_aload_n C dX8_pop_0 rfl 0 rfl 1 rfl ?_
  refine wgX8_42_44 C dX8_pop_1 4 rfl ?_
  refine g_if_gt C 9 dX8_pop_4 (by decide) 7 rfl (fun c_1 => ?_) (fun c_1 => ?_)
  · have h := o_pos h c_1
    refine g_aload_n C dX8_pop_9 rfl 0 rfl 10 rfl ?_
    refine g_dup C dX8_pop_10 rfl 11 rfl ?_
    refine wgX8_42_44 C dX8_pop_11 14 rfl ?_
    refine g_iconst C (v := 1) dX8_pop_14 (by decide) 15 rfl ?_
    refine g_isub C dX8_pop_15 16 rfl ?_
    obtain ⟨σ_2, eσ_2, h⟩ := o_lt h
    refine wpX8_42_44 C eσ_2 dX8_pop_16 19 rfl ?_
    refine g_aload_n C dX8_pop_19 rfl 0 rfl 20 rfl ?_
    refine wgX8_15_44 C dX8_pop_20 23 rfl ?_
    refine g_aload_n C dX8_pop_23 rfl 0 rfl 24 rfl ?_
    refine wgX8_42_44 C dX8_pop_24 27 rfl ?_
    obtain ⟨c_3, h⟩ := o_chk h
    refine wlX_46 C c_3 dX8_pop_27 28 rfl ?_
    exact g_lret C hr dX8_pop_28 h
  · have h := o_neg h c_1
    refine g_lconst C (v := 0) dX8_pop_7 (by decide) 8 rfl ?_
    exact g_lret C hr dX8_pop_8 h
end WK
/-! X8_joined private static long joined(int, long, long); -/
def fX8_joined (x0 : Int32) (x1 : Int64) (x3 : Int64) (σ : ST) : Option (Int64 × ST) :=
  (lt (fun (x1_1 : Int64) (x3_2 : Int64) (σ_3 : ST) => (some (if x3_2 < x1_1 then x1_1 else x3_2, σ_3))) (fun j44 => (if x0 = (42 : Int32) then (some (x1 * x3, σ)) else (if x0 = (43 : Int32) then (some (x1 + x3, σ)) else (if x0 = (44 : Int32) then (j44 x1 x3 σ) else (if x0 = (45 : Int32) then (some (x1 - x3, σ)) else (j44 x1 x3 σ)))))))
section WK
variable {p : Program} {l : Launch} {e : Env} {R : Room} {s : State} {m : MethodId} {args : Array Value} {below : List Frame} {meth : Method} {c : Code} {Q : State → Prop}
variable {D : va_G} {ad : Nat → Nat} {cI cJ cB cZ : ClassId} {A : Nat → Prop} {cc : ByteArray} {nL lev : Nat}
variable {σ : ST} {pc : Nat} {lv : List (Nat × Value)} {st : List Value}
set_option maxHeartbeats 4000000 in
set_option maxRecDepth 100000 in
theorem kX8_joined {l : Launch} {D : va_G} {ad : Nat → Nat} {cI cJ cB cZ : ClassId}  {x0 : Int32} {x1 : Int64} {x3 : Int64} {σ : ST} {res : Int64 × ST} (h : fX8_joined x0 x1 x3 σ = some res) : CMl l D (tyz cI cJ cB cZ) (wX ad cI cJ cB cZ) 1 yX8_joined cX8_joined 5 (some .long) [.int x0, .long x1, .long x3] σ res := by
  refine cml_body (own := RX8) (lv := [(0, .int x0), (1, .long x1), (3, .long x3)]) (by decide) rfl (wX_addr _ _ _ _ _) (Nat.le_of_ble_eq_true rfl) rfl (fun p e s m args below meth c A C hr => ?_)
  unfold fX8_joined at h
  refine g_iload_n C dX8_joined_0 rfl 0 rfl 1 rfl ?_
  obtain ⟨j44, ej44, h⟩ := o_lt h
  have hj44 : ∀ (x1_1 : Int64) (x3_2 : Int64) (σ_3 : ST), j44 x1_1 x3_2 σ_3 = some res → G p l e (rmL 1) s m args below meth c (MQ below (Ql D (tyz cI cJ cB cZ) (wX ad cI cJ cB cZ) A res) args s 0 0 A) D (wX ad cI cJ cB cZ) A 5 σ_3 44 [(1, .long x1_1), (3, .long x3_2)] [] := by
    intro x1_1 x3_2 σ_3 h
    rw [ej44] at h
    refine g_lload_n C dX8_joined_44 rfl 0 rfl 45 rfl ?_
    refine g_lload_n C dX8_joined_45 rfl 1 rfl 46 rfl ?_
    refine g_maxl C (inr_32 _ (List.mem_of_getElem? (i := 22) rfl)) (inr_24 _ (List.mem_of_getElem? (i := 3) rfl)) (inr_24 _ (List.mem_of_getElem? (i := 4) rfl)) (inr_24 _ (List.mem_of_getElem? (i := 5) rfl)) (by decide) (Nat.le_of_ble_eq_true rfl) dX8_joined_46 49 rfl ?_
    exact g_lret C hr dX8_joined_49 h
  rcases o_ite h with ⟨c_4, h⟩ | ⟨c_4, h⟩
  · refine g_tabIn C (off := 39) 40 dX8_joined_1 (by rw [c_4]; decide) (by rw [c_4]; decide) (by rw [c_4]; decide) (by decide) ?_
    refine g_lload_n C dX8_joined_40 rfl 1 rfl 41 rfl ?_
    refine g_lload_n C dX8_joined_41 rfl 2 rfl 42 rfl ?_
    refine g_lmul C dX8_joined_42 43 rfl ?_
    exact g_lret C hr dX8_joined_43 h
  rcases o_ite h with ⟨c_5, h⟩ | ⟨c_5, h⟩
  · refine g_tabIn C (off := 31) 32 dX8_joined_1 (by rw [c_5]; decide) (by rw [c_5]; decide) (by rw [c_5]; decide) (by decide) ?_
    refine g_lload_n C dX8_joined_32 rfl 1 rfl 33 rfl ?_
    refine g_lload_n C dX8_joined_33 rfl 2 rfl 34 rfl ?_
    refine g_ladd C dX8_joined_34 35 rfl ?_
    exact g_lret C hr dX8_joined_35 h
  rcases o_ite h with ⟨c_6, h⟩ | ⟨c_6, h⟩
  · refine g_tabIn C (off := 43) 44 dX8_joined_1 (by rw [c_6]; decide) (by rw [c_6]; decide) (by rw [c_6]; decide) (by decide) ?_
    exact g_sub C [1, 2] rfl (hj44 x1 x3 σ h)
  rcases o_ite h with ⟨c_7, h⟩ | ⟨c_7, h⟩
  · refine g_tabIn C (off := 35) 36 dX8_joined_1 (by rw [c_7]; decide) (by rw [c_7]; decide) (by rw [c_7]; decide) (by decide) ?_
    refine g_lload_n C dX8_joined_36 rfl 1 rfl 37 rfl ?_
    refine g_lload_n C dX8_joined_37 rfl 2 rfl 38 rfl ?_
    refine g_lsub C dX8_joined_38 39 rfl ?_
    exact g_lret C hr dX8_joined_39 h
  refine g_tabOut C 44 dX8_joined_1 (by have z0 := lv_neT c_4 (a := 42) (by decide); have z1 := lv_neT c_5 (a := 43) (by decide); have z2 := lv_neT c_6 (a := 44) (by decide); have z3 := lv_neT c_7 (a := 45) (by decide); omega) (by decide) ?_
  exact g_sub C [1, 2] rfl (hj44 x1 x3 σ h)
end WK
/-! X8_push private void push(long); -/
def fX8_push (x1 : Int64) (σ : ST) : Option (ST) :=
  (if ((400 : Int32)) ≤ (gI σ 14) then (some σ) else (if ix (gI σ 14) 400 then (lt (stB σ 46 (gI σ 14) x1) (fun σ_3 => (lt (sI σ_3 14 ((gI σ_3 14) + ((1 : Int32)))) (fun σ_4 => (some σ_4))))) else none))
section WK
variable {p : Program} {l : Launch} {e : Env} {R : Room} {s : State} {m : MethodId} {args : Array Value} {below : List Frame} {meth : Method} {c : Code} {Q : State → Prop}
variable {D : va_G} {ad : Nat → Nat} {cI cJ cB cZ : ClassId} {A : Nat → Prop} {cc : ByteArray} {nL lev : Nat}
variable {σ : ST} {pc : Nat} {lv : List (Nat × Value)} {st : List Value}
set_option maxHeartbeats 4000000 in
set_option maxRecDepth 100000 in
theorem kX8_push {l : Launch} {D : va_G} {ad : Nat → Nat} {cI cJ cB cZ : ClassId}  {x1 : Int64} {σ : ST} {res : ST} (h : fX8_push x1 σ = some res) : CMv l D (tyz cI cJ cB cZ) (wX ad cI cJ cB cZ) 0 yX8_push cX8_push 3 none [.ref (ad 44), .long x1] σ res := by
  refine cmv_body (own := RX8) (lv := [(0, .ref (ad 44)), (1, .long x1)]) (by decide) rfl (wX_addr _ _ _ _ _) (Nat.le_of_ble_eq_true rfl) rfl (fun p e s m args below meth c A C hr => ?_)
  unfold fX8_push at h
  refine g_aload_n C dX8_push_0 rfl 0 rfl 1 rfl ?_
  refine wgX8_42_44 C dX8_push_1 4 rfl ?_
  refine g_sipush C (v := 400) dX8_push_4 (by decide) 7 rfl ?_
  refine g_icmp_ge C 30 dX8_push_7 (by decide) 10 rfl (fun c_1 => ?_) (fun c_1 => ?_)
  · have h := o_pos h c_1
    exact g_vret C hr dX8_push_30 h
  · have h := o_neg h c_1
    refine g_aload_n C dX8_push_10 rfl 0 rfl 11 rfl ?_
    refine wgX8_15_44 C dX8_push_11 14 rfl ?_
    refine g_aload_n C dX8_push_14 rfl 0 rfl 15 rfl ?_
    refine wgX8_42_44 C dX8_push_15 18 rfl ?_
    refine g_lload_n C dX8_push_18 rfl 1 rfl 19 rfl ?_
    obtain ⟨c_2, h⟩ := o_chk h
    obtain ⟨σ_3, eσ_3, h⟩ := o_lt h
    refine wtX_46 C eσ_3 c_2 dX8_push_19 20 rfl ?_
    refine g_aload_n C dX8_push_20 rfl 0 rfl 21 rfl ?_
    refine g_dup C dX8_push_21 rfl 22 rfl ?_
    refine wgX8_42_44 C dX8_push_22 25 rfl ?_
    refine g_iconst C (v := 1) dX8_push_25 (by decide) 26 rfl ?_
    refine g_iadd C dX8_push_26 27 rfl ?_
    obtain ⟨σ_4, eσ_4, h⟩ := o_lt h
    refine wpX8_42_44 C eσ_4 dX8_push_27 30 rfl ?_
    exact g_vret C hr dX8_push_30 h
end WK
/-! X8_figure private long figure(int, int, int); -/
def fX8_figure (x1 : Int32) (x2 : Int32) (x3 : Int32) (σ : ST) : Option (Int64 × ST) :=
  (Option.bind (fX10_isBelow x2 ((6 : Int32)) σ) (fun q_1 => (if q_1.1 = 0 then (some ((0 : Int64), q_1.2)) else (lt ((x2 * ((8 : Int32))) + x3) (fun x4_3 => (if x1 = ((265 : Int32)) then (if ix x4_3 48 then (some (ldB q_1.2 37 x4_3, q_1.2)) else none) else (if x1 = ((266 : Int32)) then (if ix x4_3 48 then (some (ldB q_1.2 38 x4_3, q_1.2)) else none) else (if ix x4_3 48 then (some (ldB q_1.2 39 x4_3, q_1.2)) else none))))))))
section WK
variable {p : Program} {l : Launch} {e : Env} {R : Room} {s : State} {m : MethodId} {args : Array Value} {below : List Frame} {meth : Method} {c : Code} {Q : State → Prop}
variable {D : va_G} {ad : Nat → Nat} {cI cJ cB cZ : ClassId} {A : Nat → Prop} {cc : ByteArray} {nL lev : Nat}
variable {σ : ST} {pc : Nat} {lv : List (Nat × Value)} {st : List Value}
set_option maxHeartbeats 4000000 in
set_option maxRecDepth 100000 in
theorem kX8_figure {l : Launch} {D : va_G} {ad : Nat → Nat} {cI cJ cB cZ : ClassId}  {x1 : Int32} {x2 : Int32} {x3 : Int32} {σ : ST} {res : Int64 × ST} (h : fX8_figure x1 x2 x3 σ = some res) : CMl l D (tyz cI cJ cB cZ) (wX ad cI cJ cB cZ) 1 yX8_figure cX8_figure 5 (some .long) [.ref (ad 44), .int x1, .int x2, .int x3] σ res := by
  refine cml_body (own := RX8) (lv := [(0, .ref (ad 44)), (1, .int x1), (2, .int x2), (3, .int x3)]) (by decide) rfl (wX_addr _ _ _ _ _) (Nat.le_of_ble_eq_true rfl) rfl (fun p e s m args below meth c A C hr => ?_)
  unfold fX8_figure at h
  refine g_iload_n C dX8_figure_0 rfl 2 rfl 1 rfl ?_
  refine g_bipush C (v := 6) dX8_figure_1 (by decide) 3 rfl ?_
  obtain ⟨q_1, hq_1, h⟩ := o_bind h
  refine wcX8_76_X C (kX10_isBelow hq_1) (by decide) (Nat.le_of_ble_eq_true rfl) dX8_figure_3 6 rfl ?_
  refine g_if_ne C 11 dX8_figure_6 (by decide) 9 rfl (fun c_2 => ?_) (fun c_2 => ?_)
  · have h := o_neg h c_2
    refine g_iload_n C dX8_figure_11 rfl 2 rfl 12 rfl ?_
    refine g_bipush C (v := 8) dX8_figure_12 (by decide) 14 rfl ?_
    refine g_imul C dX8_figure_14 15 rfl ?_
    refine g_iload_n C dX8_figure_15 rfl 3 rfl 16 rfl ?_
    refine g_iadd C dX8_figure_16 17 rfl ?_
    obtain ⟨x4_3, ex4_3, h⟩ := o_lt h
    refine g_istore C (lv' := [(4, .int x4_3), (0, .ref (ad 44)), (1, .int x1), (2, .int x2), (3, .int x3)]) ex4_3 dX8_figure_17 (by decide) rfl 19 rfl ?_
    refine g_iload_n C dX8_figure_19 rfl 2 rfl 20 rfl ?_
    refine g_sipush C (v := 265) dX8_figure_20 (by decide) 23 rfl ?_
    refine g_icmp_ne C 40 dX8_figure_23 (by decide) 26 rfl (fun c_4 => ?_) (fun c_4 => ?_)
    · have h := o_neg h c_4
      refine g_iload_n C dX8_figure_40 rfl 2 rfl 41 rfl ?_
      refine g_sipush C (v := 266) dX8_figure_41 (by decide) 44 rfl ?_
      refine g_icmp_ne C 63 dX8_figure_44 (by decide) 47 rfl (fun c_5 => ?_) (fun c_5 => ?_)
      · have h := o_neg h c_5
        refine g_aload_n C dX8_figure_63 rfl 1 rfl 64 rfl ?_
        refine wgX8_22_44 C dX8_figure_64 67 rfl ?_
        refine wgX8_80_30 C dX8_figure_67 70 rfl ?_
        refine wgX8_94_36 C dX8_figure_70 73 rfl ?_
        refine g_iload C dX8_figure_73 0 rfl 75 rfl ?_
        obtain ⟨c_6, h⟩ := o_chk h
        refine wlX_39 C c_6 dX8_figure_75 76 rfl ?_
        exact g_lret C hr dX8_figure_76 h
      · have h := o_pos h c_5
        refine g_aload_n C dX8_figure_47 rfl 1 rfl 48 rfl ?_
        refine wgX8_22_44 C dX8_figure_48 51 rfl ?_
        refine wgX8_80_30 C dX8_figure_51 54 rfl ?_
        refine wgX8_91_36 C dX8_figure_54 57 rfl ?_
        refine g_iload C dX8_figure_57 0 rfl 59 rfl ?_
        obtain ⟨c_7, h⟩ := o_chk h
        refine wlX_38 C c_7 dX8_figure_59 60 rfl ?_
        refine g_goto C 76 dX8_figure_60 (by decide) ?_
        exact g_lret C hr dX8_figure_76 h
    · have h := o_pos h c_4
      refine g_aload_n C dX8_figure_26 rfl 1 rfl 27 rfl ?_
      refine wgX8_22_44 C dX8_figure_27 30 rfl ?_
      refine wgX8_80_30 C dX8_figure_30 33 rfl ?_
      refine wgX8_86_36 C dX8_figure_33 36 rfl ?_
      refine g_iload C dX8_figure_36 0 rfl 38 rfl ?_
      obtain ⟨c_8, h⟩ := o_chk h
      refine wlX_37 C c_8 dX8_figure_38 39 rfl ?_
      exact g_lret C hr dX8_figure_39 h
  · have h := o_pos h c_2
    refine g_lconst C (v := 0) dX8_figure_9 (by decide) 10 rfl ?_
    exact g_lret C hr dX8_figure_10 h
end WK
/-! X8_perform private void perform(int, int, int); -/
def fX8_perform (x1 : Int32) (x2 : Int32) (x3 : Int32) (σ : ST) : Option (ST) :=
  (lt (fun (x1_1 : Int32) (σ_2 : ST) => (Option.bind (fX8_pop σ_2) (fun q_3 => (lt (q_3.1) (fun x4_4 => (Option.bind (fX8_pop q_3.2) (fun q_5 => (lt (q_5.1) (fun x6_6 => (Option.bind (fX8_joined x1_1 x6_6 x4_4 q_5.2) (fun q_7 => (Option.bind (fX8_push q_7.1 q_7.2) (fun q_8 => (some q_8)))))))))))))) (fun j120 => (lt (fun (x1_9 : Int32) (x2_10 : Int32) (x3_11 : Int32) (σ_12 : ST) => (Option.bind (fX8_figure x1_9 x2_10 x3_11 σ_12) (fun q_13 => (Option.bind (fX8_push q_13.1 q_13.2) (fun q_14 => (some q_14)))))) (fun j106 => (if x1 = (256 : Int32) then (Option.bind (fX4_hasStep x2 σ) (fun q_27 => (lt (fun (v_28 : Int64) (σ_29 : ST) => (Option.bind (fX8_push v_28 σ_29) (fun q_30 => (some q_30)))) (fun j100 => (if q_27.1 = 0 then (j100 ((0 : Int64)) q_27.2) else (if ix ((x2 * ((8 : Int32))) + x3) 56 then (j100 (ldB q_27.2 45 ((x2 * ((8 : Int32))) + x3)) q_27.2) else none)))))) else (if x1 = (257 : Int32) then (Option.bind (fX8_push x2.toInt64 σ) (fun q_33 => (some q_33))) else (if x1 = (258 : Int32) then (j120 x1 σ) else (if x1 = (259 : Int32) then (j120 x1 σ) else (if x1 = (260 : Int32) then (j120 x1 σ) else (if x1 = (261 : Int32) then (j120 x1 σ) else (if x1 = (262 : Int32) then (j120 x1 σ) else (if x1 = (263 : Int32) then (j120 x1 σ) else (if x1 = (264 : Int32) then (j120 x1 σ) else (if x1 = (265 : Int32) then (j106 x1 x2 x3 σ) else (if x1 = (266 : Int32) then (j106 x1 x2 x3 σ) else (if x1 = (267 : Int32) then (j106 x1 x2 x3 σ) else (j120 x1 σ)))))))))))))))))
section WK
variable {p : Program} {l : Launch} {e : Env} {R : Room} {s : State} {m : MethodId} {args : Array Value} {below : List Frame} {meth : Method} {c : Code} {Q : State → Prop}
variable {D : va_G} {ad : Nat → Nat} {cI cJ cB cZ : ClassId} {A : Nat → Prop} {cc : ByteArray} {nL lev : Nat}
variable {σ : ST} {pc : Nat} {lv : List (Nat × Value)} {st : List Value}
set_option maxHeartbeats 4000000 in
set_option maxRecDepth 100000 in
theorem kX8_perform {l : Launch} {D : va_G} {ad : Nat → Nat} {cI cJ cB cZ : ClassId}  {x1 : Int32} {x2 : Int32} {x3 : Int32} {σ : ST} {res : ST} (h : fX8_perform x1 x2 x3 σ = some res) : CMv l D (tyz cI cJ cB cZ) (wX ad cI cJ cB cZ) 2 yX8_perform cX8_perform 8 none [.ref (ad 44), .int x1, .int x2, .int x3] σ res := by
  refine cmv_body (own := RX8) (lv := [(0, .ref (ad 44)), (1, .int x1), (2, .int x2), (3, .int x3)]) (by decide) rfl (wX_addr _ _ _ _ _) (Nat.le_of_ble_eq_true rfl) rfl (fun p e s m args below meth c A C hr => ?_)
  unfold fX8_perform at h
  refine g_iload_n C dX8_perform_0 rfl 1 rfl 1 rfl ?_
  obtain ⟨j120, ej120, h⟩ := o_lt h
  have hj120 : ∀ (x1_1 : Int32) (σ_2 : ST), j120 x1_1 σ_2 = some res → G p l e (rmL 2) s m args below meth c (MQ below (Qv D (tyz cI cJ cB cZ) (wX ad cI cJ cB cZ) A res) args s 0 0 A) D (wX ad cI cJ cB cZ) A 8 σ_2 120 [(0, .ref (ad 44)), (1, .int x1_1)] [] := by
    intro x1_1 σ_2 h
    rw [ej120] at h
    refine g_aload_n C dX8_perform_120 rfl 0 rfl 121 rfl ?_
    obtain ⟨q_3, hq_3, h⟩ := o_bind h
    refine wcX8_60_X_44 C (kX8_pop hq_3) (by decide) (Nat.le_of_ble_eq_true rfl) dX8_perform_121 124 rfl ?_
    obtain ⟨x4_4, ex4_4, h⟩ := o_lt h
    refine g_lstore C (lv' := [(4, .long x4_4), (0, .ref (ad 44)), (1, .int x1_1)]) ex4_4 dX8_perform_124 (by decide) rfl 126 rfl ?_
    refine g_aload_n C dX8_perform_126 rfl 1 rfl 127 rfl ?_
    obtain ⟨q_5, hq_5, h⟩ := o_bind h
    refine wcX8_60_X_44 C (kX8_pop hq_5) (by decide) (Nat.le_of_ble_eq_true rfl) dX8_perform_127 130 rfl ?_
    obtain ⟨x6_6, ex6_6, h⟩ := o_lt h
    refine g_lstore C (lv' := [(6, .long x6_6), (4, .long x4_4), (0, .ref (ad 44)), (1, .int x1_1)]) ex6_6 dX8_perform_130 (by decide) rfl 132 rfl ?_
    refine g_aload_n C dX8_perform_132 rfl 2 rfl 133 rfl ?_
    refine g_iload_n C dX8_perform_133 rfl 3 rfl 134 rfl ?_
    refine g_lload C dX8_perform_134 0 rfl 136 rfl ?_
    refine g_lload C dX8_perform_136 1 rfl 138 rfl ?_
    obtain ⟨q_7, hq_7, h⟩ := o_bind h
    refine wcX8_72_X C (kX8_joined hq_7) (by decide) (Nat.le_of_ble_eq_true rfl) dX8_perform_138 141 rfl ?_
    obtain ⟨q_8, hq_8, h⟩ := o_bind h
    refine wcX8_64_X_44 C (kX8_push hq_8) (by decide) (Nat.le_of_ble_eq_true rfl) dX8_perform_141 144 rfl ?_
    exact g_vret C hr dX8_perform_144 h
  obtain ⟨j106, ej106, h⟩ := o_lt h
  have hj106 : ∀ (x1_9 : Int32) (x2_10 : Int32) (x3_11 : Int32) (σ_12 : ST), j106 x1_9 x2_10 x3_11 σ_12 = some res → G p l e (rmL 2) s m args below meth c (MQ below (Qv D (tyz cI cJ cB cZ) (wX ad cI cJ cB cZ) A res) args s 0 0 A) D (wX ad cI cJ cB cZ) A 8 σ_12 106 [(0, .ref (ad 44)), (1, .int x1_9), (2, .int x2_10), (3, .int x3_11)] [] := by
    intro x1_9 x2_10 x3_11 σ_12 h
    rw [ej106] at h
    refine g_aload_n C dX8_perform_106 rfl 0 rfl 107 rfl ?_
    refine g_aload_n C dX8_perform_107 rfl 0 rfl 108 rfl ?_
    refine g_iload_n C dX8_perform_108 rfl 1 rfl 109 rfl ?_
    refine g_iload_n C dX8_perform_109 rfl 2 rfl 110 rfl ?_
    refine g_iload_n C dX8_perform_110 rfl 3 rfl 111 rfl ?_
    obtain ⟨q_13, hq_13, h⟩ := o_bind h
    refine wcX8_68_X_44 C (kX8_figure hq_13) (by decide) (Nat.le_of_ble_eq_true rfl) dX8_perform_111 114 rfl ?_
    obtain ⟨q_14, hq_14, h⟩ := o_bind h
    refine wcX8_64_X_44 C (kX8_push hq_14) (by decide) (Nat.le_of_ble_eq_true rfl) dX8_perform_114 117 rfl ?_
    refine g_goto C 144 dX8_perform_117 (by decide) ?_
    exact g_vret C hr dX8_perform_144 h
  rcases o_ite h with ⟨c_15, h⟩ | ⟨c_15, h⟩
  · refine g_tabIn C (off := 72) 73 dX8_perform_1 (by rw [c_15]; decide) (by rw [c_15]; decide) (by rw [c_15]; decide) (by decide) ?_
    refine g_aload_n C dX8_perform_73 rfl 0 rfl 74 rfl ?_
    refine g_aload_n C dX8_perform_74 rfl 0 rfl 75 rfl ?_
    refine wgX8_18_44 C dX8_perform_75 78 rfl ?_
    refine g_iload_n C dX8_perform_78 rfl 2 rfl 79 rfl ?_
    obtain ⟨q_27, hq_27, h⟩ := o_bind h
    refine wcX8_26_X_19 C (kX4_hasStep hq_27) (by decide) (Nat.le_of_ble_eq_true rfl) dX8_perform_79 82 rfl ?_
    obtain ⟨j100, ej100, h⟩ := o_lt h
    have hj100 : ∀ (v_28 : Int64) (σ_29 : ST), j100 v_28 σ_29 = some res → G p l e (rmL 2) s m args below meth c (MQ below (Qv D (tyz cI cJ cB cZ) (wX ad cI cJ cB cZ) A res) args s 0 0 A) D (wX ad cI cJ cB cZ) A 8 σ_29 100 [(0, .ref (ad 44))] [.long v_28, .ref (ad 44)] := by
      intro v_28 σ_29 h
      rw [ej100] at h
      obtain ⟨q_30, hq_30, h⟩ := o_bind h
      refine wcX8_64_X_44 C (kX8_push hq_30) (by decide) (Nat.le_of_ble_eq_true rfl) dX8_perform_100 103 rfl ?_
      refine g_goto C 144 dX8_perform_103 (by decide) ?_
      exact g_vret C hr dX8_perform_144 h
    refine g_if_eq C 99 dX8_perform_82 (by decide) 85 rfl (fun c_31 => ?_) (fun c_31 => ?_)
    · have h := o_pos h c_31
      refine g_lconst C (v := 0) dX8_perform_99 (by decide) 100 rfl ?_
      exact g_sub C [0] rfl (hj100 ((0 : Int64)) q_27.2 h)
    · have h := o_neg h c_31
      refine g_aload_n C dX8_perform_85 rfl 0 rfl 86 rfl ?_
      refine wgX8_9_44 C dX8_perform_86 89 rfl ?_
      refine g_iload_n C dX8_perform_89 rfl 2 rfl 90 rfl ?_
      refine g_bipush C (v := 8) dX8_perform_90 (by decide) 92 rfl ?_
      refine g_imul C dX8_perform_92 93 rfl ?_
      refine g_iload_n C dX8_perform_93 rfl 3 rfl 94 rfl ?_
      refine g_iadd C dX8_perform_94 95 rfl ?_
      obtain ⟨c_32, h⟩ := o_chk h
      refine wlX_45 C c_32 dX8_perform_95 96 rfl ?_
      refine g_goto C 100 dX8_perform_96 (by decide) ?_
      exact g_sub C [0] rfl (hj100 (ldB q_27.2 45 ((x2 * ((8 : Int32))) + x3)) q_27.2 h)
  rcases o_ite h with ⟨c_16, h⟩ | ⟨c_16, h⟩
  · refine g_tabIn C (off := 63) 64 dX8_perform_1 (by rw [c_16]; decide) (by rw [c_16]; decide) (by rw [c_16]; decide) (by decide) ?_
    refine g_aload_n C dX8_perform_64 rfl 0 rfl 65 rfl ?_
    refine g_iload_n C dX8_perform_65 rfl 2 rfl 66 rfl ?_
    refine g_i2l C dX8_perform_66 67 rfl ?_
    obtain ⟨q_33, hq_33, h⟩ := o_bind h
    refine wcX8_64_X_44 C (kX8_push hq_33) (by decide) (Nat.le_of_ble_eq_true rfl) dX8_perform_67 70 rfl ?_
    refine g_goto C 144 dX8_perform_70 (by decide) ?_
    exact g_vret C hr dX8_perform_144 h
  rcases o_ite h with ⟨c_17, h⟩ | ⟨c_17, h⟩
  · refine g_tabIn C (off := 119) 120 dX8_perform_1 (by rw [c_17]; decide) (by rw [c_17]; decide) (by rw [c_17]; decide) (by decide) ?_
    exact g_sub C [0, 1] rfl (hj120 x1 σ h)
  rcases o_ite h with ⟨c_18, h⟩ | ⟨c_18, h⟩
  · refine g_tabIn C (off := 119) 120 dX8_perform_1 (by rw [c_18]; decide) (by rw [c_18]; decide) (by rw [c_18]; decide) (by decide) ?_
    exact g_sub C [0, 1] rfl (hj120 x1 σ h)
  rcases o_ite h with ⟨c_19, h⟩ | ⟨c_19, h⟩
  · refine g_tabIn C (off := 119) 120 dX8_perform_1 (by rw [c_19]; decide) (by rw [c_19]; decide) (by rw [c_19]; decide) (by decide) ?_
    exact g_sub C [0, 1] rfl (hj120 x1 σ h)
  rcases o_ite h with ⟨c_20, h⟩ | ⟨c_20, h⟩
  · refine g_tabIn C (off := 119) 120 dX8_perform_1 (by rw [c_20]; decide) (by rw [c_20]; decide) (by rw [c_20]; decide) (by decide) ?_
    exact g_sub C [0, 1] rfl (hj120 x1 σ h)
  rcases o_ite h with ⟨c_21, h⟩ | ⟨c_21, h⟩
  · refine g_tabIn C (off := 119) 120 dX8_perform_1 (by rw [c_21]; decide) (by rw [c_21]; decide) (by rw [c_21]; decide) (by decide) ?_
    exact g_sub C [0, 1] rfl (hj120 x1 σ h)
  rcases o_ite h with ⟨c_22, h⟩ | ⟨c_22, h⟩
  · refine g_tabIn C (off := 119) 120 dX8_perform_1 (by rw [c_22]; decide) (by rw [c_22]; decide) (by rw [c_22]; decide) (by decide) ?_
    exact g_sub C [0, 1] rfl (hj120 x1 σ h)
  rcases o_ite h with ⟨c_23, h⟩ | ⟨c_23, h⟩
  · refine g_tabIn C (off := 119) 120 dX8_perform_1 (by rw [c_23]; decide) (by rw [c_23]; decide) (by rw [c_23]; decide) (by decide) ?_
    exact g_sub C [0, 1] rfl (hj120 x1 σ h)
  rcases o_ite h with ⟨c_24, h⟩ | ⟨c_24, h⟩
  · refine g_tabIn C (off := 105) 106 dX8_perform_1 (by rw [c_24]; decide) (by rw [c_24]; decide) (by rw [c_24]; decide) (by decide) ?_
    exact g_sub C [0, 1, 2, 3] rfl (hj106 x1 x2 x3 σ h)
  rcases o_ite h with ⟨c_25, h⟩ | ⟨c_25, h⟩
  · refine g_tabIn C (off := 105) 106 dX8_perform_1 (by rw [c_25]; decide) (by rw [c_25]; decide) (by rw [c_25]; decide) (by decide) ?_
    exact g_sub C [0, 1, 2, 3] rfl (hj106 x1 x2 x3 σ h)
  rcases o_ite h with ⟨c_26, h⟩ | ⟨c_26, h⟩
  · refine g_tabIn C (off := 105) 106 dX8_perform_1 (by rw [c_26]; decide) (by rw [c_26]; decide) (by rw [c_26]; decide) (by decide) ?_
    exact g_sub C [0, 1, 2, 3] rfl (hj106 x1 x2 x3 σ h)
  refine g_tabOut C 120 dX8_perform_1 (by have z0 := lv_neT c_15 (a := 256) (by decide); have z1 := lv_neT c_16 (a := 257) (by decide); have z2 := lv_neT c_17 (a := 258) (by decide); have z3 := lv_neT c_18 (a := 259) (by decide); have z4 := lv_neT c_19 (a := 260) (by decide); have z5 := lv_neT c_20 (a := 261) (by decide); have z6 := lv_neT c_21 (a := 262) (by decide); have z7 := lv_neT c_22 (a := 263) (by decide); have z8 := lv_neT c_23 (a := 264) (by decide); have z9 := lv_neT c_24 (a := 265) (by decide); have z10 := lv_neT c_25 (a := 266) (by decide); have z11 := lv_neT c_26 (a := 267) (by decide); omega) (by decide) ?_
  exact g_sub C [0, 1] rfl (hj120 x1 σ h)
end WK
/-! X8_settle void settle(int); -/
def fX8_settle_L51 (k88 : Int32 → Int32 → Int32 → ST → Option (ST)) : Nat → Int32 → Int32 → Int32 → Int32 → ST → Option (ST)
  | 0, _, _, _, _, _ => none
  | n + 1, x1, x2, x3, x4, σ => (if x2 ≤ x4 then (k88 x1 x2 x3 σ) else (if ix x4 400 then (if ix x4 400 then (Option.bind (fX8_perform (ldA σ 28 x4) (ldA σ 29 x4) x3 σ) (fun q_13 => (lt (x4 + 1) (fun x4_14 => (fX8_settle_L51 k88 n x1 x2 x3 x4_14 q_13))))) else none) else none))
def fX8_settle_L30  : Nat → Int32 → Int32 → Int32 → ST → Option (ST)
  | 0, _, _, _, _ => none
  | n + 1, x1, x2, x3, σ => (if ((8 : Int32)) ≤ x3 then (some σ) else (lt (sI σ 14 ((0 : Int32))) (fun σ_7 => (Option.bind (fX4_codeBegin x1 σ_7) (fun q_8 => (lt (q_8.1) (fun x4_9 => (fX8_settle_L51 (fun (x1_15 : Int32) (x2_16 : Int32) (x3_17 : Int32) (σ_18 : ST) => (Option.bind (fX8_pop σ_18) (fun q_19 => (if ix ((x1_15 * ((8 : Int32))) + x3_17) 56 then (lt (stB q_19.2 45 ((x1_15 * ((8 : Int32))) + x3_17) q_19.1) (fun σ_21 => (lt (x3_17 + 1) (fun x3_22 => (fX8_settle_L30 n x1_15 x2_16 x3_22 σ_21))))) else none)))) n x1 x2 x3 x4_9 q_8.2))))))))
def fX8_settle (n : Nat) (x1 : Int32) (σ : ST) : Option (ST) :=
  (Option.bind (fX4_hasStep x1 σ) (fun q_1 => (if q_1.1 = 0 then (some q_1.2) else (if ix x1 7 then (lt (if ((400 : Int32)) < (ldA q_1.2 27 x1) then ((400 : Int32)) else (ldA q_1.2 27 x1)) (fun x2_4 => (lt ((0 : Int32)) (fun x3_5 => (fX8_settle_L30 n x1 x2_4 x3_5 q_1.2))))) else none))))
section WK
variable {p : Program} {l : Launch} {e : Env} {R : Room} {s : State} {m : MethodId} {args : Array Value} {below : List Frame} {meth : Method} {c : Code} {Q : State → Prop}
variable {D : va_G} {ad : Nat → Nat} {cI cJ cB cZ : ClassId} {A : Nat → Prop} {cc : ByteArray} {nL lev : Nat}
variable {σ : ST} {pc : Nat} {lv : List (Nat × Value)} {st : List Value}
set_option maxHeartbeats 4000000 in
set_option maxRecDepth 100000 in
theorem kX8_settle_L51 (C : Ctx p l e (rmL 3) s m args below meth c D (tyz cI cJ cB cZ) (wX ad cI cJ cB cZ) A cX8_settle 5 3 RX8) (hr : meth.sig.returnType = none) {res : ST} {k88 : Int32 → Int32 → Int32 → ST → Option (ST)} (hk88 : ∀ (x1 : Int32) (x2 : Int32) (x3 : Int32) (σ : ST), k88 x1 x2 x3 σ = some res → G p l e (rmL 3) s m args below meth c (MQ below (Qv D (tyz cI cJ cB cZ) (wX ad cI cJ cB cZ) A res) args s 0 0 A) D (wX ad cI cJ cB cZ) A 5 σ 88 [(0, .ref (ad 44)), (1, .int x1), (2, .int x2), (3, .int x3)] []) : ∀ (n : Nat) (x1 : Int32) (x2 : Int32) (x3 : Int32) (x4 : Int32) (σ : ST), fX8_settle_L51 k88 n x1 x2 x3 x4 σ = some res → G p l e (rmL 3) s m args below meth c (MQ below (Qv D (tyz cI cJ cB cZ) (wX ad cI cJ cB cZ) A res) args s 0 0 A) D (wX ad cI cJ cB cZ) A 5 σ 51 [(0, .ref (ad 44)), (1, .int x1), (2, .int x2), (3, .int x3), (4, .int x4)] [] := by
  intro n
  induction n with
  | zero => intro x1 x2 x3 x4 σ h; have h : none = some res := h; cases h
  | succ n ih =>
    intro x1 x2 x3 x4 σ h
    rw [fX8_settle_L51] at h
    refine g_iload C dX8_settle_51 4 rfl 53 rfl ?_
    refine g_iload_n C dX8_settle_53 rfl 2 rfl 54 rfl ?_
    refine g_icmp_ge C 88 dX8_settle_54 (by decide) 57 rfl (fun c_10 => ?_) (fun c_10 => ?_)
    · have h := o_pos h c_10
      exact g_sub C [0, 1, 2, 3] rfl (hk88 x1 x2 x3 σ h)
    · have h := o_neg h c_10
      refine g_aload_n C dX8_settle_57 rfl 0 rfl 58 rfl ?_
      refine g_aload_n C dX8_settle_58 rfl 0 rfl 59 rfl ?_
      refine wgX8_18_44 C dX8_settle_59 62 rfl ?_
      refine wgX8_50_19 C dX8_settle_62 65 rfl ?_
      refine g_iload C dX8_settle_65 4 rfl 67 rfl ?_
      obtain ⟨c_11, h⟩ := o_chk h
      refine wlX_28 C c_11 dX8_settle_67 68 rfl ?_
      refine g_aload_n C dX8_settle_68 rfl 0 rfl 69 rfl ?_
      refine wgX8_18_44 C dX8_settle_69 72 rfl ?_
      refine wgX8_53_19 C dX8_settle_72 75 rfl ?_
      refine g_iload C dX8_settle_75 4 rfl 77 rfl ?_
      obtain ⟨c_12, h⟩ := o_chk h
      refine wlX_29 C c_12 dX8_settle_77 78 rfl ?_
      refine g_iload_n C dX8_settle_78 rfl 3 rfl 79 rfl ?_
      obtain ⟨q_13, hq_13, h⟩ := o_bind h
      refine wcX8_56_X_44 C (kX8_perform hq_13) (by decide) (Nat.le_of_ble_eq_true rfl) dX8_settle_79 82 rfl ?_
      obtain ⟨x4_14, ex4_14, h⟩ := o_lt h
      refine g_iinc C (lv' := [(4, .int x4_14), (0, .ref (ad 44)), (1, .int x1), (2, .int x2), (3, .int x3)]) ex4_14 dX8_settle_82 4 rfl (by decide) (by decide) rfl 85 rfl ?_
      refine g_goto C 51 dX8_settle_85 (by decide) ?_
      exact g_sub C [1, 2, 3, 4, 0] rfl (ih x1 x2 x3 x4_14 q_13 h)
set_option maxHeartbeats 4000000 in
set_option maxRecDepth 100000 in
theorem kX8_settle_L30 (C : Ctx p l e (rmL 3) s m args below meth c D (tyz cI cJ cB cZ) (wX ad cI cJ cB cZ) A cX8_settle 5 3 RX8) (hr : meth.sig.returnType = none) {res : ST}   : ∀ (n : Nat) (x1 : Int32) (x2 : Int32) (x3 : Int32) (σ : ST), fX8_settle_L30 n x1 x2 x3 σ = some res → G p l e (rmL 3) s m args below meth c (MQ below (Qv D (tyz cI cJ cB cZ) (wX ad cI cJ cB cZ) A res) args s 0 0 A) D (wX ad cI cJ cB cZ) A 5 σ 30 [(0, .ref (ad 44)), (1, .int x1), (2, .int x2), (3, .int x3)] [] := by
  intro n
  induction n with
  | zero => intro x1 x2 x3 σ h; have h : none = some res := h; cases h
  | succ n ih =>
    intro x1 x2 x3 σ h
    rw [fX8_settle_L30] at h
    refine g_iload_n C dX8_settle_30 rfl 3 rfl 31 rfl ?_
    refine g_bipush C (v := 8) dX8_settle_31 (by decide) 33 rfl ?_
    refine g_icmp_ge C 109 dX8_settle_33 (by decide) 36 rfl (fun c_6 => ?_) (fun c_6 => ?_)
    · have h := o_pos h c_6
      exact g_vret C hr dX8_settle_109 h
    · have h := o_neg h c_6
      refine g_aload_n C dX8_settle_36 rfl 0 rfl 37 rfl ?_
      refine g_iconst C (v := 0) dX8_settle_37 (by decide) 38 rfl ?_
      obtain ⟨σ_7, eσ_7, h⟩ := o_lt h
      refine wpX8_42_44 C eσ_7 dX8_settle_38 41 rfl ?_
      refine g_aload_n C dX8_settle_41 rfl 0 rfl 42 rfl ?_
      refine wgX8_18_44 C dX8_settle_42 45 rfl ?_
      refine g_iload_n C dX8_settle_45 rfl 1 rfl 46 rfl ?_
      obtain ⟨q_8, hq_8, h⟩ := o_bind h
      refine wcX8_46_X_19 C (kX4_codeBegin hq_8) (by decide) (Nat.le_of_ble_eq_true rfl) dX8_settle_46 49 rfl ?_
      obtain ⟨x4_9, ex4_9, h⟩ := o_lt h
      refine g_istore C (lv' := [(4, .int x4_9), (0, .ref (ad 44)), (1, .int x1), (2, .int x2), (3, .int x3)]) ex4_9 dX8_settle_49 (by decide) rfl 51 rfl ?_
      exact g_sub C [1, 2, 3, 4, 0] rfl (kX8_settle_L51 C hr (fun x1_15 x2_16 x3_17 σ_18 h => by
          refine g_aload_n C dX8_settle_88 rfl 0 rfl 89 rfl ?_
          refine wgX8_9_44 C dX8_settle_89 92 rfl ?_
          refine g_iload_n C dX8_settle_92 rfl 1 rfl 93 rfl ?_
          refine g_bipush C (v := 8) dX8_settle_93 (by decide) 95 rfl ?_
          refine g_imul C dX8_settle_95 96 rfl ?_
          refine g_iload_n C dX8_settle_96 rfl 3 rfl 97 rfl ?_
          refine g_iadd C dX8_settle_97 98 rfl ?_
          refine g_aload_n C dX8_settle_98 rfl 0 rfl 99 rfl ?_
          obtain ⟨q_19, hq_19, h⟩ := o_bind h
          refine wcX8_60_X_44 C (kX8_pop hq_19) (by decide) (Nat.le_of_ble_eq_true rfl) dX8_settle_99 102 rfl ?_
          obtain ⟨c_20, h⟩ := o_chk h
          obtain ⟨σ_21, eσ_21, h⟩ := o_lt h
          refine wtX_45 C eσ_21 c_20 dX8_settle_102 103 rfl ?_
          obtain ⟨x3_22, ex3_22, h⟩ := o_lt h
          refine g_iinc C (lv' := [(3, .int x3_22), (0, .ref (ad 44)), (1, .int x1_15), (2, .int x2_16)]) ex3_22 dX8_settle_103 3 rfl (by decide) (by decide) rfl 106 rfl ?_
          refine g_goto C 30 dX8_settle_106 (by decide) ?_
          exact g_sub C [1, 2, 3, 0] rfl (ih x1_15 x2_16 x3_22 σ_21 h)) n x1 x2 x3 x4_9 q_8.2 h)
set_option maxHeartbeats 4000000 in
set_option maxRecDepth 100000 in
theorem kX8_settle {l : Launch} {D : va_G} {ad : Nat → Nat} {cI cJ cB cZ : ClassId}  {n : Nat} {x1 : Int32} {σ : ST} {res : ST} (h : fX8_settle n x1 σ = some res) : CMv l D (tyz cI cJ cB cZ) (wX ad cI cJ cB cZ) 3 yX8_settle cX8_settle 5 none [.ref (ad 44), .int x1] σ res := by
  refine cmv_body (own := RX8) (lv := [(0, .ref (ad 44)), (1, .int x1)]) (by decide) rfl (wX_addr _ _ _ _ _) (Nat.le_of_ble_eq_true rfl) rfl (fun p e s m args below meth c A C hr => ?_)
  unfold fX8_settle at h
  refine g_aload_n C dX8_settle_0 rfl 0 rfl 1 rfl ?_
  refine wgX8_18_44 C dX8_settle_1 4 rfl ?_
  refine g_iload_n C dX8_settle_4 rfl 1 rfl 5 rfl ?_
  obtain ⟨q_1, hq_1, h⟩ := o_bind h
  refine wcX8_26_X_19 C (kX4_hasStep hq_1) (by decide) (Nat.le_of_ble_eq_true rfl) dX8_settle_5 8 rfl ?_
  refine g_if_ne C 12 dX8_settle_8 (by decide) 11 rfl (fun c_2 => ?_) (fun c_2 => ?_)
  · have h := o_neg h c_2
    refine g_aload_n C dX8_settle_12 rfl 0 rfl 13 rfl ?_
    refine wgX8_18_44 C dX8_settle_13 16 rfl ?_
    refine wgX8_32_19 C dX8_settle_16 19 rfl ?_
    refine g_iload_n C dX8_settle_19 rfl 1 rfl 20 rfl ?_
    obtain ⟨c_3, h⟩ := o_chk h
    refine wlX_27 C c_3 dX8_settle_20 21 rfl ?_
    refine g_sipush C (v := 400) dX8_settle_21 (by decide) 24 rfl ?_
    refine g_min C (inr_31 _ (List.mem_of_getElem? (i := 12) rfl)) (inr_31 _ (List.mem_of_getElem? (i := 13) rfl)) (inr_24 _ (List.mem_of_getElem? (i := 4) rfl)) (inr_31 _ (List.mem_of_getElem? (i := 14) rfl)) (by decide) (Nat.le_of_ble_eq_true rfl) dX8_settle_24 27 rfl ?_
    obtain ⟨x2_4, ex2_4, h⟩ := o_lt h
    refine g_istore_n C (lv' := [(2, .int x2_4), (0, .ref (ad 44)), (1, .int x1)]) ex2_4 dX8_settle_27 rfl (by decide) rfl 28 rfl ?_
    refine g_iconst C (v := 0) dX8_settle_28 (by decide) 29 rfl ?_
    obtain ⟨x3_5, ex3_5, h⟩ := o_lt h
    refine g_istore_n C (lv' := [(3, .int x3_5), (2, .int x2_4), (0, .ref (ad 44)), (1, .int x1)]) ex3_5 dX8_settle_29 rfl (by decide) rfl 30 rfl ?_
    exact g_sub C [2, 3, 1, 0] rfl (kX8_settle_L30 C hr  n x1 x2_4 x3_5 q_1.2 h)
  · have h := o_pos h c_2
    exact g_vret C hr dX8_settle_11 h
end WK
/-! X3_deliver void deliver(int); -/
def fX3_deliver_L2  : Nat → Int32 → Int32 → ST → Option (ST)
  | 0, _, _, _ => none
  | n + 1, x1, x2, σ => (if (gI σ 15) ≤ x2 then (some σ) else (Option.bind (fX3_isRead x1 x2 σ) (fun q_3 => (if q_3.1 = 0 then (lt (x2 + 1) (fun x2_5 => (fX3_deliver_L2 n x1 x2_5 q_3.2))) else (Option.bind (fX3_isHeld x2 q_3.2) (fun q_6 => (if q_6.1 = 0 then (Option.bind (fX3_offer n x1 x2 q_6.2) (fun q_9 => (lt (x2 + 1) (fun x2_10 => (fX3_deliver_L2 n x1 x2_10 q_9))))) else (lt (x2 + 1) (fun x2_8 => (fX3_deliver_L2 n x1 x2_8 q_6.2))))))))))
def fX3_deliver (n : Nat) (x1 : Int32) (σ : ST) : Option (ST) :=
  (lt ((0 : Int32)) (fun x2_1 => (fX3_deliver_L2 n x1 x2_1 σ)))
section WK
variable {p : Program} {l : Launch} {e : Env} {R : Room} {s : State} {m : MethodId} {args : Array Value} {below : List Frame} {meth : Method} {c : Code} {Q : State → Prop}
variable {D : va_G} {ad : Nat → Nat} {cI cJ cB cZ : ClassId} {A : Nat → Prop} {cc : ByteArray} {nL lev : Nat}
variable {σ : ST} {pc : Nat} {lv : List (Nat × Value)} {st : List Value}
set_option maxHeartbeats 4000000 in
set_option maxRecDepth 100000 in
theorem kX3_deliver_L2 (C : Ctx p l e (rmL 2) s m args below meth c D (tyz cI cJ cB cZ) (wX ad cI cJ cB cZ) A cX3_deliver 3 2 RX3) (hr : meth.sig.returnType = none) {res : ST}   : ∀ (n : Nat) (x1 : Int32) (x2 : Int32) (σ : ST), fX3_deliver_L2 n x1 x2 σ = some res → G p l e (rmL 2) s m args below meth c (MQ below (Qv D (tyz cI cJ cB cZ) (wX ad cI cJ cB cZ) A res) args s 0 0 A) D (wX ad cI cJ cB cZ) A 3 σ 2 [(0, .ref (ad 47)), (1, .int x1), (2, .int x2)] [] := by
  intro n
  induction n with
  | zero => intro x1 x2 σ h; have h : none = some res := h; cases h
  | succ n ih =>
    intro x1 x2 σ h
    rw [fX3_deliver_L2] at h
    refine g_iload_n C dX3_deliver_2 rfl 2 rfl 3 rfl ?_
    refine g_aload_n C dX3_deliver_3 rfl 0 rfl 4 rfl ?_
    refine wgX3_9_47 C dX3_deliver_4 7 rfl ?_
    refine g_icmp_ge C 39 dX3_deliver_7 (by decide) 10 rfl (fun c_2 => ?_) (fun c_2 => ?_)
    · have h := o_pos h c_2
      exact g_vret C hr dX3_deliver_39 h
    · have h := o_neg h c_2
      refine g_aload_n C dX3_deliver_10 rfl 0 rfl 11 rfl ?_
      refine g_iload_n C dX3_deliver_11 rfl 1 rfl 12 rfl ?_
      refine g_iload_n C dX3_deliver_12 rfl 2 rfl 13 rfl ?_
      obtain ⟨q_3, hq_3, h⟩ := o_bind h
      refine wcX3_43_X_47 C (kX3_isRead hq_3) (by decide) (Nat.le_of_ble_eq_true rfl) dX3_deliver_13 16 rfl ?_
      refine g_if_eq C 33 dX3_deliver_16 (by decide) 19 rfl (fun c_4 => ?_) (fun c_4 => ?_)
      · have h := o_pos h c_4
        obtain ⟨x2_5, ex2_5, h⟩ := o_lt h
        refine g_iinc C (lv' := [(2, .int x2_5), (0, .ref (ad 47)), (1, .int x1)]) ex2_5 dX3_deliver_33 2 rfl (by decide) (by decide) rfl 36 rfl ?_
        refine g_goto C 2 dX3_deliver_36 (by decide) ?_
        exact g_sub C [1, 2, 0] rfl (ih x1 x2_5 q_3.2 h)
      · have h := o_neg h c_4
        refine g_aload_n C dX3_deliver_19 rfl 0 rfl 20 rfl ?_
        refine g_iload_n C dX3_deliver_20 rfl 2 rfl 21 rfl ?_
        obtain ⟨q_6, hq_6, h⟩ := o_bind h
        refine wcX3_46_X_47 C (kX3_isHeld hq_6) (by decide) (Nat.le_of_ble_eq_true rfl) dX3_deliver_21 24 rfl ?_
        refine g_if_ne C 33 dX3_deliver_24 (by decide) 27 rfl (fun c_7 => ?_) (fun c_7 => ?_)
        · have h := o_neg h c_7
          obtain ⟨x2_8, ex2_8, h⟩ := o_lt h
          refine g_iinc C (lv' := [(2, .int x2_8), (0, .ref (ad 47)), (1, .int x1)]) ex2_8 dX3_deliver_33 2 rfl (by decide) (by decide) rfl 36 rfl ?_
          refine g_goto C 2 dX3_deliver_36 (by decide) ?_
          exact g_sub C [1, 2, 0] rfl (ih x1 x2_8 q_6.2 h)
        · have h := o_pos h c_7
          refine g_aload_n C dX3_deliver_27 rfl 0 rfl 28 rfl ?_
          refine g_iload_n C dX3_deliver_28 rfl 1 rfl 29 rfl ?_
          refine g_iload_n C dX3_deliver_29 rfl 2 rfl 30 rfl ?_
          obtain ⟨q_9, hq_9, h⟩ := o_bind h
          refine wcX3_50_X_47 C (kX3_offer hq_9) (by decide) (Nat.le_of_ble_eq_true rfl) dX3_deliver_30 33 rfl ?_
          obtain ⟨x2_10, ex2_10, h⟩ := o_lt h
          refine g_iinc C (lv' := [(2, .int x2_10), (0, .ref (ad 47)), (1, .int x1)]) ex2_10 dX3_deliver_33 2 rfl (by decide) (by decide) rfl 36 rfl ?_
          refine g_goto C 2 dX3_deliver_36 (by decide) ?_
          exact g_sub C [1, 2, 0] rfl (ih x1 x2_10 q_9 h)
set_option maxHeartbeats 4000000 in
set_option maxRecDepth 100000 in
theorem kX3_deliver {l : Launch} {D : va_G} {ad : Nat → Nat} {cI cJ cB cZ : ClassId}  {n : Nat} {x1 : Int32} {σ : ST} {res : ST} (h : fX3_deliver n x1 σ = some res) : CMv l D (tyz cI cJ cB cZ) (wX ad cI cJ cB cZ) 2 yX3_deliver cX3_deliver 3 none [.ref (ad 47), .int x1] σ res := by
  refine cmv_body (own := RX3) (lv := [(0, .ref (ad 47)), (1, .int x1)]) (by decide) rfl (wX_addr _ _ _ _ _) (Nat.le_of_ble_eq_true rfl) rfl (fun p e s m args below meth c A C hr => ?_)
  unfold fX3_deliver at h
  refine g_iconst C (v := 0) dX3_deliver_0 (by decide) 1 rfl ?_
  obtain ⟨x2_1, ex2_1, h⟩ := o_lt h
  refine g_istore_n C (lv' := [(2, .int x2_1), (0, .ref (ad 47)), (1, .int x1)]) ex2_1 dX3_deliver_1 rfl (by decide) rfl 2 rfl ?_
  exact g_sub C [1, 2, 0] rfl (kX3_deliver_L2 C hr  n x1 x2_1 σ h)
end WK
/-! X9_finish private void finish(int); -/
def fX9_finish (n : Nat) (x1 : Int32) (σ : ST) : Option (ST) :=
  (lt (sI σ 21 ((gI σ 21) &&& ((((1 : Int32)) <<< (x1 &&& 31)) ^^^ ((-1 : Int32))))) (fun σ_1 => (lt (sI σ_1 20 ((gI σ_1 20) ||| (((1 : Int32)) <<< (x1 &&& 31)))) (fun σ_2 => (if ix x1 7 then (lt (stA σ_2 55 x1 (gI σ_2 18)) (fun σ_4 => (if ix x1 7 then (if ix x1 7 then (lt (stA σ_4 56 x1 ((ldA σ_4 56 x1) + ((1 : Int32)))) (fun σ_7 => (Option.bind (fX8_settle n x1 σ_7) (fun q_8 => (Option.bind (fX4_isReport x1 q_8) (fun q_9 => (if q_9.1 = 0 then (some q_9.2) else (Option.bind (fX3_deliver n x1 q_9.2) (fun q_11 => (some q_11)))))))))) else none) else none))) else none)))))
section WK
variable {p : Program} {l : Launch} {e : Env} {R : Room} {s : State} {m : MethodId} {args : Array Value} {below : List Frame} {meth : Method} {c : Code} {Q : State → Prop}
variable {D : va_G} {ad : Nat → Nat} {cI cJ cB cZ : ClassId} {A : Nat → Prop} {cc : ByteArray} {nL lev : Nat}
variable {σ : ST} {pc : Nat} {lv : List (Nat × Value)} {st : List Value}
set_option maxHeartbeats 4000000 in
set_option maxRecDepth 100000 in
theorem kX9_finish {l : Launch} {D : va_G} {ad : Nat → Nat} {cI cJ cB cZ : ClassId}  {n : Nat} {x1 : Int32} {σ : ST} {res : ST} (h : fX9_finish n x1 σ = some res) : CMv l D (tyz cI cJ cB cZ) (wX ad cI cJ cB cZ) 4 yX9_finish cX9_finish 2 none [.ref (ad 52), .int x1] σ res := by
  refine cmv_body (own := RX9) (lv := [(0, .ref (ad 52)), (1, .int x1)]) (by decide) rfl (wX_addr _ _ _ _ _) (Nat.le_of_ble_eq_true rfl) rfl (fun p e s m args below meth c A C hr => ?_)
  unfold fX9_finish at h
  refine g_aload_n C dX9_finish_0 rfl 0 rfl 1 rfl ?_
  refine g_dup C dX9_finish_1 rfl 2 rfl ?_
  refine wgX9_21_52 C dX9_finish_2 5 rfl ?_
  refine g_iconst C (v := 1) dX9_finish_5 (by decide) 6 rfl ?_
  refine g_iload_n C dX9_finish_6 rfl 1 rfl 7 rfl ?_
  refine g_ishl C dX9_finish_7 8 rfl ?_
  refine g_iconst C (v := -1) dX9_finish_8 (by decide) 9 rfl ?_
  refine g_ixor C dX9_finish_9 10 rfl ?_
  refine g_iand C dX9_finish_10 11 rfl ?_
  obtain ⟨σ_1, eσ_1, h⟩ := o_lt h
  refine wpX9_21_52 C eσ_1 dX9_finish_11 14 rfl ?_
  refine g_aload_n C dX9_finish_14 rfl 0 rfl 15 rfl ?_
  refine g_dup C dX9_finish_15 rfl 16 rfl ?_
  refine wgX9_18_52 C dX9_finish_16 19 rfl ?_
  refine g_iconst C (v := 1) dX9_finish_19 (by decide) 20 rfl ?_
  refine g_iload_n C dX9_finish_20 rfl 1 rfl 21 rfl ?_
  refine g_ishl C dX9_finish_21 22 rfl ?_
  refine g_ior C dX9_finish_22 23 rfl ?_
  obtain ⟨σ_2, eσ_2, h⟩ := o_lt h
  refine wpX9_18_52 C eσ_2 dX9_finish_23 26 rfl ?_
  refine g_aload_n C dX9_finish_26 rfl 0 rfl 27 rfl ?_
  refine wgX9_31_52 C dX9_finish_27 30 rfl ?_
  refine g_iload_n C dX9_finish_30 rfl 1 rfl 31 rfl ?_
  refine g_aload_n C dX9_finish_31 rfl 0 rfl 32 rfl ?_
  refine wgX9_9_52 C dX9_finish_32 35 rfl ?_
  obtain ⟨c_3, h⟩ := o_chk h
  obtain ⟨σ_4, eσ_4, h⟩ := o_lt h
  refine wtX_55 C eσ_4 c_3 dX9_finish_35 36 rfl ?_
  refine g_aload_n C dX9_finish_36 rfl 0 rfl 37 rfl ?_
  refine wgX9_34_52 C dX9_finish_37 40 rfl ?_
  refine g_iload_n C dX9_finish_40 rfl 1 rfl 41 rfl ?_
  refine g_dup2 C dX9_finish_41 rfl rfl 42 rfl ?_
  obtain ⟨c_5, h⟩ := o_chk h
  refine wlX_56 C c_5 dX9_finish_42 43 rfl ?_
  refine g_iconst C (v := 1) dX9_finish_43 (by decide) 44 rfl ?_
  refine g_iadd C dX9_finish_44 45 rfl ?_
  obtain ⟨c_6, h⟩ := o_chk h
  obtain ⟨σ_7, eσ_7, h⟩ := o_lt h
  refine wtX_56 C eσ_7 c_6 dX9_finish_45 46 rfl ?_
  refine g_aload_n C dX9_finish_46 rfl 0 rfl 47 rfl ?_
  refine wgX9_48_52 C dX9_finish_47 50 rfl ?_
  refine g_iload_n C dX9_finish_50 rfl 1 rfl 51 rfl ?_
  obtain ⟨q_8, hq_8, h⟩ := o_bind h
  refine wcX9_105_X_44 C (kX8_settle hq_8) (by decide) (Nat.le_of_ble_eq_true rfl) dX9_finish_51 54 rfl ?_
  refine g_aload_n C dX9_finish_54 rfl 0 rfl 55 rfl ?_
  refine wgX9_40_52 C dX9_finish_55 58 rfl ?_
  refine g_iload_n C dX9_finish_58 rfl 1 rfl 59 rfl ?_
  obtain ⟨q_9, hq_9, h⟩ := o_bind h
  refine wcX9_110_X_19 C (kX4_isReport hq_9) (by decide) (Nat.le_of_ble_eq_true rfl) dX9_finish_59 62 rfl ?_
  refine g_if_eq C 73 dX9_finish_62 (by decide) 65 rfl (fun c_10 => ?_) (fun c_10 => ?_)
  · have h := o_pos h c_10
    exact g_vret C hr dX9_finish_73 h
  · have h := o_neg h c_10
    refine g_aload_n C dX9_finish_65 rfl 0 rfl 66 rfl ?_
    refine wgX9_52_52 C dX9_finish_66 69 rfl ?_
    refine g_iload_n C dX9_finish_69 rfl 1 rfl 70 rfl ?_
    obtain ⟨q_11, hq_11, h⟩ := o_bind h
    refine wcX9_113_X_47 C (kX3_deliver hq_11) (by decide) (Nat.le_of_ble_eq_true rfl) dX9_finish_70 73 rfl ?_
    exact g_vret C hr dX9_finish_73 h
end WK
