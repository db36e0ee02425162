/-! X10_marks public int marks(int, int); -/
def fX10_marks (x1 : Int32) (x2 : Int32) (σ : ST) : Option (Int32 × ST) :=
  (Option.bind (fX4_hasReport x1 σ) (fun q_1 => (if q_1.1 = 0 then (some ((-1 : Int32), q_1.2)) else (Option.bind (fX3_hasReader x2 q_1.2) (fun q_3 => (if q_3.1 = 0 then (some ((-1 : Int32), q_3.2)) else (Option.bind (fX3_isRead x1 x2 q_3.2) (fun q_5 => (if q_5.1 = 0 then (some ((-1 : Int32), q_5.2)) else (Option.bind (fX3_cell x1 x2 q_5.2) (fun q_7 => (if ix q_7.1 42 then (some (ldA q_7.2 50 q_7.1, q_7.2)) else none))))))))))))
section WK
variable {p : Program} {l : Launch} {e : Env} {R : Room} {s : State} {m : MethodId} {args : Array Value} {below : List Frame} {meth : Method} {c : Code} {Q : State → Prop}
variable {D : va_G} {ad : Nat → Nat} {cI cJ cB cZ : ClassId} {A : Nat → Prop} {cc : ByteArray} {nL lev : Nat}
variable {σ : ST} {pc : Nat} {lv : List (Nat × Value)} {st : List Value}
set_option maxHeartbeats 4000000 in
set_option maxRecDepth 100000 in
theorem kX10_marks {l : Launch} {D : va_G} {ad : Nat → Nat} {cI cJ cB cZ : ClassId}  {x1 : Int32} {x2 : Int32} {σ : ST} {res : Int32 × ST} (h : fX10_marks x1 x2 σ = some res) : CMi l D (tyz cI cJ cB cZ) (wX ad cI cJ cB cZ) 2 yX10_marks cX10_marks 3 (some .int) [.ref (ad 0), .int x1, .int x2] σ res := by
  refine cmi_body (own := RX10) (lv := [(0, .ref (ad 0)), (1, .int x1), (2, .int x2)]) (by decide) rfl (wX_addr _ _ _ _ _) (Nat.le_of_ble_eq_true rfl) rfl (fun p e s m args below meth c A C hr => ?_)
  unfold fX10_marks at h
  refine g_aload_n C dX10_marks_0 rfl 0 rfl 1 rfl ?_
  refine wgX10_37_0 C dX10_marks_1 4 rfl ?_
  refine g_iload_n C dX10_marks_4 rfl 1 rfl 5 rfl ?_
  obtain ⟨q_1, hq_1, h⟩ := o_bind h
  refine wcX10_162_X_19 C (kX4_hasReport hq_1) (by decide) (Nat.le_of_ble_eq_true rfl) dX10_marks_5 8 rfl ?_
  refine g_if_eq C 34 dX10_marks_8 (by decide) 11 rfl (fun c_2 => ?_) (fun c_2 => ?_)
  · have h := o_pos h c_2
    refine g_iconst C (v := -1) dX10_marks_34 (by decide) 35 rfl ?_
    exact g_iret C hr dX10_marks_35 h
  · have h := o_neg h c_2
    refine g_aload_n C dX10_marks_11 rfl 0 rfl 12 rfl ?_
    refine wgX10_58_0 C dX10_marks_12 15 rfl ?_
    refine g_iload_n C dX10_marks_15 rfl 2 rfl 16 rfl ?_
    obtain ⟨q_3, hq_3, h⟩ := o_bind h
    refine wcX10_142_X_47 C (kX3_hasReader hq_3) (by decide) (Nat.le_of_ble_eq_true rfl) dX10_marks_16 19 rfl ?_
    refine g_if_eq C 34 dX10_marks_19 (by decide) 22 rfl (fun c_4 => ?_) (fun c_4 => ?_)
    · have h := o_pos h c_4
      refine g_iconst C (v := -1) dX10_marks_34 (by decide) 35 rfl ?_
      exact g_iret C hr dX10_marks_35 h
    · have h := o_neg h c_4
      refine g_aload_n C dX10_marks_22 rfl 0 rfl 23 rfl ?_
      refine wgX10_58_0 C dX10_marks_23 26 rfl ?_
      refine g_iload_n C dX10_marks_26 rfl 1 rfl 27 rfl ?_
      refine g_iload_n C dX10_marks_27 rfl 2 rfl 28 rfl ?_
      obtain ⟨q_5, hq_5, h⟩ := o_bind h
      refine wcX10_165_X_47 C (kX3_isRead hq_5) (by decide) (Nat.le_of_ble_eq_true rfl) dX10_marks_28 31 rfl ?_
      refine g_if_ne C 36 dX10_marks_31 (by decide) 34 rfl (fun c_6 => ?_) (fun c_6 => ?_)
      · have h := o_neg h c_6
        refine g_aload_n C dX10_marks_36 rfl 0 rfl 37 rfl ?_
        refine wgX10_58_0 C dX10_marks_37 40 rfl ?_
        refine wgX10_248_47 C dX10_marks_40 43 rfl ?_
        refine g_iload_n C dX10_marks_43 rfl 1 rfl 44 rfl ?_
        refine g_iload_n C dX10_marks_44 rfl 2 rfl 45 rfl ?_
        obtain ⟨q_7, hq_7, h⟩ := o_bind h
        refine wcX10_244_X C (kX3_cell hq_7) (by decide) (Nat.le_of_ble_eq_true rfl) dX10_marks_45 48 rfl ?_
        obtain ⟨c_8, h⟩ := o_chk h
        refine wlX_50 C c_8 dX10_marks_48 49 rfl ?_
        exact g_iret C hr dX10_marks_49 h
      · have h := o_pos h c_6
        refine g_iconst C (v := -1) dX10_marks_34 (by decide) 35 rfl ?_
        exact g_iret C hr dX10_marks_35 h
end WK
/-! X10_table public int table(int, int); -/
def fX10_table (x1 : Int32) (x2 : Int32) (σ : ST) : Option (Int32 × ST) :=
  (Option.bind (fX10_isBelow x1 ((6 : Int32)) σ) (fun q_1 => (if q_1.1 = 0 then (some ((-1 : Int32), q_1.2)) else (if x2 = (0 : Int32) then (if ix x1 6 then (some (ldA q_1.2 31 x1, q_1.2)) else none) else (if x2 = (1 : Int32) then (if ix x1 6 then (some (ldA q_1.2 32 x1, q_1.2)) else none) else (if x2 = (2 : Int32) then (if ix x1 6 then (some (ldA q_1.2 33 x1, q_1.2)) else none) else (if x2 = (3 : Int32) then (if ix x1 6 then (some (ldA q_1.2 34 x1, q_1.2)) else none) else (if x2 = (4 : Int32) then (if ix x1 6 then (some (ldA q_1.2 35 x1, q_1.2)) else none) else (some ((-1 : Int32), q_1.2))))))))))
section WK
variable {p : Program} {l : Launch} {e : Env} {R : Room} {s : State} {m : MethodId} {args : Array Value} {below : List Frame} {meth : Method} {c : Code} {Q : State → Prop}
variable {D : va_G} {ad : Nat → Nat} {cI cJ cB cZ : ClassId} {A : Nat → Prop} {cc : ByteArray} {nL lev : Nat}
variable {σ : ST} {pc : Nat} {lv : List (Nat × Value)} {st : List Value}
set_option maxHeartbeats 4000000 in
set_option maxRecDepth 100000 in
theorem kX10_table {l : Launch} {D : va_G} {ad : Nat → Nat} {cI cJ cB cZ : ClassId}  {x1 : Int32} {x2 : Int32} {σ : ST} {res : Int32 × ST} (h : fX10_table x1 x2 σ = some res) : CMi l D (tyz cI cJ cB cZ) (wX ad cI cJ cB cZ) 1 yX10_table cX10_table 3 (some .int) [.ref (ad 0), .int x1, .int x2] σ res := by
  refine cmi_body (own := RX10) (lv := [(0, .ref (ad 0)), (1, .int x1), (2, .int x2)]) (by decide) rfl (wX_addr _ _ _ _ _) (Nat.le_of_ble_eq_true rfl) rfl (fun p e s m args below meth c A C hr => ?_)
  unfold fX10_table at h
  refine g_iload_n C dX10_table_0 rfl 1 rfl 1 rfl ?_
  refine g_bipush C (v := 6) dX10_table_1 (by decide) 3 rfl ?_
  obtain ⟨q_1, hq_1, h⟩ := o_bind h
  refine wcX10_111_X C (kX10_isBelow hq_1) (by decide) (Nat.le_of_ble_eq_true rfl) dX10_table_3 6 rfl ?_
  refine g_if_ne C 11 dX10_table_6 (by decide) 9 rfl (fun c_2 => ?_) (fun c_2 => ?_)
  · have h := o_neg h c_2
    refine g_iload_n C dX10_table_11 rfl 2 rfl 12 rfl ?_
    rcases o_ite h with ⟨c_3, h⟩ | ⟨c_3, h⟩
    · refine g_tabIn C (off := 36) 48 dX10_table_12 (by rw [c_3]; decide) (by rw [c_3]; decide) (by rw [c_3]; decide) (by decide) ?_
      refine g_aload_n C dX10_table_48 rfl 0 rfl 49 rfl ?_
      refine wgX10_44_0 C dX10_table_49 52 rfl ?_
      refine wgX10_251_30 C dX10_table_52 55 rfl ?_
      refine g_iload_n C dX10_table_55 rfl 1 rfl 56 rfl ?_
      obtain ⟨c_8, h⟩ := o_chk h
      refine wlX_31 C c_8 dX10_table_56 57 rfl ?_
      exact g_iret C hr dX10_table_57 h
    rcases o_ite h with ⟨c_4, h⟩ | ⟨c_4, h⟩
    · refine g_tabIn C (off := 46) 58 dX10_table_12 (by rw [c_4]; decide) (by rw [c_4]; decide) (by rw [c_4]; decide) (by decide) ?_
      refine g_aload_n C dX10_table_58 rfl 0 rfl 59 rfl ?_
      refine wgX10_44_0 C dX10_table_59 62 rfl ?_
      refine wgX10_254_30 C dX10_table_62 65 rfl ?_
      refine g_iload_n C dX10_table_65 rfl 1 rfl 66 rfl ?_
      obtain ⟨c_9, h⟩ := o_chk h
      refine wlX_32 C c_9 dX10_table_66 67 rfl ?_
      exact g_iret C hr dX10_table_67 h
    rcases o_ite h with ⟨c_5, h⟩ | ⟨c_5, h⟩
    · refine g_tabIn C (off := 56) 68 dX10_table_12 (by rw [c_5]; decide) (by rw [c_5]; decide) (by rw [c_5]; decide) (by decide) ?_
      refine g_aload_n C dX10_table_68 rfl 0 rfl 69 rfl ?_
      refine wgX10_44_0 C dX10_table_69 72 rfl ?_
      refine wgX10_122_30 C dX10_table_72 75 rfl ?_
      refine g_iload_n C dX10_table_75 rfl 1 rfl 76 rfl ?_
      obtain ⟨c_10, h⟩ := o_chk h
      refine wlX_33 C c_10 dX10_table_76 77 rfl ?_
      exact g_iret C hr dX10_table_77 h
    rcases o_ite h with ⟨c_6, h⟩ | ⟨c_6, h⟩
    · refine g_tabIn C (off := 66) 78 dX10_table_12 (by rw [c_6]; decide) (by rw [c_6]; decide) (by rw [c_6]; decide) (by decide) ?_
      refine g_aload_n C dX10_table_78 rfl 0 rfl 79 rfl ?_
      refine wgX10_44_0 C dX10_table_79 82 rfl ?_
      refine wgX10_115_30 C dX10_table_82 85 rfl ?_
      refine g_iload_n C dX10_table_85 rfl 1 rfl 86 rfl ?_
      obtain ⟨c_11, h⟩ := o_chk h
      refine wlX_34 C c_11 dX10_table_86 87 rfl ?_
      exact g_iret C hr dX10_table_87 h
    rcases o_ite h with ⟨c_7, h⟩ | ⟨c_7, h⟩
    · refine g_tabIn C (off := 76) 88 dX10_table_12 (by rw [c_7]; decide) (by rw [c_7]; decide) (by rw [c_7]; decide) (by decide) ?_
      refine g_aload_n C dX10_table_88 rfl 0 rfl 89 rfl ?_
      refine wgX10_44_0 C dX10_table_89 92 rfl ?_
      refine wgX10_119_30 C dX10_table_92 95 rfl ?_
      refine g_iload_n C dX10_table_95 rfl 1 rfl 96 rfl ?_
      obtain ⟨c_12, h⟩ := o_chk h
      refine wlX_35 C c_12 dX10_table_96 97 rfl ?_
      exact g_iret C hr dX10_table_97 h
    refine g_tabOut C 98 dX10_table_12 (by have z0 := lv_neT c_3 (a := 0) (by decide); have z1 := lv_neT c_4 (a := 1) (by decide); have z2 := lv_neT c_5 (a := 2) (by decide); have z3 := lv_neT c_6 (a := 3) (by decide); have z4 := lv_neT c_7 (a := 4) (by decide); omega) (by decide) ?_
    refine g_iconst C (v := -1) dX10_table_98 (by decide) 99 rfl ?_
    exact g_iret C hr dX10_table_99 h
  · have h := o_pos h c_2
    refine g_iconst C (v := -1) dX10_table_9 (by decide) 10 rfl ?_
    exact g_iret C hr dX10_table_10 h
end WK
/-! X10_count public int count(int); -/
def fX10_count (x1 : Int32) (σ : ST) : Option (Int32 × ST) :=
  (if x1 = (0 : Int32) then (some (gI σ 10, σ)) else (if x1 = (1 : Int32) then (some (gI σ 15, σ)) else (if x1 = (2 : Int32) then (some (gI σ 18, σ)) else (if x1 = (3 : Int32) then (some (gI σ 19, σ)) else (if x1 = (4 : Int32) then (Option.bind (fJ6_bitCount_0f7a4 (gI σ 21) σ) (fun q_9 => (some (q_9.1, q_9.2)))) else (if x1 = (5 : Int32) then (Option.bind (fJ6_bitCount_0f7a4 (gI σ 20) σ) (fun q_10 => (some (q_10.1, q_10.2)))) else (if x1 = (6 : Int32) then (some (gI σ 17, σ)) else (if x1 = (7 : Int32) then (some (gI σ 0, σ)) else (some ((-1 : Int32), σ))))))))))
section WK
variable {p : Program} {l : Launch} {e : Env} {R : Room} {s : State} {m : MethodId} {args : Array Value} {below : List Frame} {meth : Method} {c : Code} {Q : State → Prop}
variable {D : va_G} {ad : Nat → Nat} {cI cJ cB cZ : ClassId} {A : Nat → Prop} {cc : ByteArray} {nL lev : Nat}
variable {σ : ST} {pc : Nat} {lv : List (Nat × Value)} {st : List Value}
set_option maxHeartbeats 4000000 in
set_option maxRecDepth 100000 in
theorem kX10_count {l : Launch} {D : va_G} {ad : Nat → Nat} {cI cJ cB cZ : ClassId}  {x1 : Int32} {σ : ST} {res : Int32 × ST} (h : fX10_count x1 σ = some res) : CMi l D (tyz cI cJ cB cZ) (wX ad cI cJ cB cZ) 1 yX10_count cX10_count 2 (some .int) [.ref (ad 0), .int x1] σ res := by
  refine cmi_body (own := RX10) (lv := [(0, .ref (ad 0)), (1, .int x1)]) (by decide) rfl (wX_addr _ _ _ _ _) (Nat.le_of_ble_eq_true rfl) rfl (fun p e s m args below meth c A C hr => ?_)
  unfold fX10_count at h
  refine g_iload_n C dX10_count_0 rfl 1 rfl 1 rfl ?_
  rcases o_ite h with ⟨c_1, h⟩ | ⟨c_1, h⟩
  · refine g_tabIn C (off := 47) 48 dX10_count_1 (by rw [c_1]; decide) (by rw [c_1]; decide) (by rw [c_1]; decide) (by decide) ?_
    refine g_aload_n C dX10_count_48 rfl 0 rfl 49 rfl ?_
    refine wgX10_37_0 C dX10_count_49 52 rfl ?_
    refine wgX10_257_19 C dX10_count_52 55 rfl ?_
    exact g_iret C hr dX10_count_55 h
  rcases o_ite h with ⟨c_2, h⟩ | ⟨c_2, h⟩
  · refine g_tabIn C (off := 55) 56 dX10_count_1 (by rw [c_2]; decide) (by rw [c_2]; decide) (by rw [c_2]; decide) (by decide) ?_
    refine g_aload_n C dX10_count_56 rfl 0 rfl 57 rfl ?_
    refine wgX10_58_0 C dX10_count_57 60 rfl ?_
    refine wgX10_136_47 C dX10_count_60 63 rfl ?_
    exact g_iret C hr dX10_count_63 h
  rcases o_ite h with ⟨c_3, h⟩ | ⟨c_3, h⟩
  · refine g_tabIn C (off := 63) 64 dX10_count_1 (by rw [c_3]; decide) (by rw [c_3]; decide) (by rw [c_3]; decide) (by decide) ?_
    refine g_aload_n C dX10_count_64 rfl 0 rfl 65 rfl ?_
    refine wgX10_67_0 C dX10_count_65 68 rfl ?_
    refine wgX10_177_52 C dX10_count_68 71 rfl ?_
    exact g_iret C hr dX10_count_71 h
  rcases o_ite h with ⟨c_4, h⟩ | ⟨c_4, h⟩
  · refine g_tabIn C (off := 71) 72 dX10_count_1 (by rw [c_4]; decide) (by rw [c_4]; decide) (by rw [c_4]; decide) (by decide) ?_
    refine g_aload_n C dX10_count_72 rfl 0 rfl 73 rfl ?_
    refine wgX10_67_0 C dX10_count_73 76 rfl ?_
    refine wgX10_174_52 C dX10_count_76 79 rfl ?_
    exact g_iret C hr dX10_count_79 h
  rcases o_ite h with ⟨c_5, h⟩ | ⟨c_5, h⟩
  · refine g_tabIn C (off := 79) 80 dX10_count_1 (by rw [c_5]; decide) (by rw [c_5]; decide) (by rw [c_5]; decide) (by decide) ?_
    refine g_aload_n C dX10_count_80 rfl 0 rfl 81 rfl ?_
    refine wgX10_67_0 C dX10_count_81 84 rfl ?_
    refine wgX10_171_52 C dX10_count_84 87 rfl ?_
    obtain ⟨q_9, hq_9, h⟩ := o_bind h
    refine wcX10_260_X C (kJ6_bitCount_0f7a4 hq_9) (by decide) (Nat.le_of_ble_eq_true rfl) dX10_count_87 90 rfl ?_
    exact g_iret C hr dX10_count_90 h
  rcases o_ite h with ⟨c_6, h⟩ | ⟨c_6, h⟩
  · refine g_tabIn C (off := 90) 91 dX10_count_1 (by rw [c_6]; decide) (by rw [c_6]; decide) (by rw [c_6]; decide) (by decide) ?_
    refine g_aload_n C dX10_count_91 rfl 0 rfl 92 rfl ?_
    refine wgX10_67_0 C dX10_count_92 95 rfl ?_
    refine wgX10_155_52 C dX10_count_95 98 rfl ?_
    obtain ⟨q_10, hq_10, h⟩ := o_bind h
    refine wcX10_260_X C (kJ6_bitCount_0f7a4 hq_10) (by decide) (Nat.le_of_ble_eq_true rfl) dX10_count_98 101 rfl ?_
    exact g_iret C hr dX10_count_101 h
  rcases o_ite h with ⟨c_7, h⟩ | ⟨c_7, h⟩
  · refine g_tabIn C (off := 101) 102 dX10_count_1 (by rw [c_7]; decide) (by rw [c_7]; decide) (by rw [c_7]; decide) (by decide) ?_
    refine g_aload_n C dX10_count_102 rfl 0 rfl 103 rfl ?_
    refine wgX10_58_0 C dX10_count_103 106 rfl ?_
    refine wgX10_265_47 C dX10_count_106 109 rfl ?_
    exact g_iret C hr dX10_count_109 h
  rcases o_ite h with ⟨c_8, h⟩ | ⟨c_8, h⟩
  · refine g_tabIn C (off := 109) 110 dX10_count_1 (by rw [c_8]; decide) (by rw [c_8]; decide) (by rw [c_8]; decide) (by decide) ?_
    refine g_aload_n C dX10_count_110 rfl 0 rfl 111 rfl ?_
    refine wgX10_12_0 C dX10_count_111 114 rfl ?_
    refine wgX10_80_1 C dX10_count_114 117 rfl ?_
    exact g_iret C hr dX10_count_117 h
  refine g_tabOut C 118 dX10_count_1 (by have z0 := lv_neT c_1 (a := 0) (by decide); have z1 := lv_neT c_2 (a := 1) (by decide); have z2 := lv_neT c_3 (a := 2) (by decide); have z3 := lv_neT c_4 (a := 3) (by decide); have z4 := lv_neT c_5 (a := 4) (by decide); have z5 := lv_neT c_6 (a := 5) (by decide); have z6 := lv_neT c_7 (a := 6) (by decide); have z7 := lv_neT c_8 (a := 7) (by decide); omega) (by decide) ?_
  refine g_iconst C (v := -1) dX10_count_118 (by decide) 119 rfl ?_
  exact g_iret C hr dX10_count_119 h
end WK
/-! X11_put private void put(int); -/
def fX11_put_L3  : Nat → Int32 → Int32 → ST → Option (ST)
  | 0, _, _, _ => none
  | n + 1, x1, x2, σ => (if x2 < 0 then (some σ) else (if ix (gI σ 1) 2000 then (lt (stA σ 1 (gI σ 1) (nb ((x1 >>> (x2 &&& 31)).toInt8.toInt32))) (fun σ_4 => (lt (sI σ_4 1 ((gI σ_4 1) + ((1 : Int32)))) (fun σ_5 => (lt (x2 + (-8)) (fun x2_6 => (fX11_put_L3 n x1 x2_6 σ_5))))))) else none))
def fX11_put (n : Nat) (x1 : Int32) (σ : ST) : Option (ST) :=
  (lt ((24 : Int32)) (fun x2_1 => (fX11_put_L3 n x1 x2_1 σ)))
section WK
variable {p : Program} {l : Launch} {e : Env} {R : Room} {s : State} {m : MethodId} {args : Array Value} {below : List Frame} {meth : Method} {c : Code} {Q : State → Prop}
variable {D : va_G} {ad : Nat → Nat} {cI cJ cB cZ : ClassId} {A : Nat → Prop} {cc : ByteArray} {nL lev : Nat}
variable {σ : ST} {pc : Nat} {lv : List (Nat × Value)} {st : List Value}
set_option maxHeartbeats 4000000 in
set_option maxRecDepth 100000 in
theorem kX11_put_L3 (C : Ctx p l e (rmL 0) s m args below meth c D (tyz cI cJ cB cZ) (wM ad cI cJ cB cZ) A cX11_put 3 0 RX11) (hr : meth.sig.returnType = none) {res : ST}   : ∀ (n : Nat) (x1 : Int32) (x2 : Int32) (σ : ST), fX11_put_L3 n x1 x2 σ = some res → G p l e (rmL 0) s m args below meth c (MQ below (Qv D (tyz cI cJ cB cZ) (wM ad cI cJ cB cZ) A res) args s 0 0 A) D (wM ad cI cJ cB cZ) A 3 σ 3 [(0, .ref (ad 0)), (1, .int x1), (2, .int x2)] [] := by
  intro n
  induction n with
  | zero => intro x1 x2 σ h; have h : none = some res := h; cases h
  | succ n ih =>
    intro x1 x2 σ h
    rw [fX11_put_L3] at h
    refine g_iload_n C dX11_put_3 rfl 2 rfl 4 rfl ?_
    refine g_if_lt C 36 dX11_put_4 (by decide) 7 rfl (fun c_2 => ?_) (fun c_2 => ?_)
    · have h := o_pos h c_2
      exact g_vret C hr dX11_put_36 h
    · have h := o_neg h c_2
      refine g_aload_n C dX11_put_7 rfl 0 rfl 8 rfl ?_
      refine wgX11_13_0 C dX11_put_8 11 rfl ?_
      refine g_aload_n C dX11_put_11 rfl 0 rfl 12 rfl ?_
      refine wgX11_171_0 C dX11_put_12 15 rfl ?_
      refine g_iload_n C dX11_put_15 rfl 1 rfl 16 rfl ?_
      refine g_iload_n C dX11_put_16 rfl 2 rfl 17 rfl ?_
      refine g_ishr C dX11_put_17 18 rfl ?_
      refine g_i2b C dX11_put_18 19 rfl ?_
      obtain ⟨c_3, h⟩ := o_chk h
      obtain ⟨σ_4, eσ_4, h⟩ := o_lt h
      refine wtM_1 C eσ_4 c_3 dX11_put_19 20 rfl ?_
      refine g_aload_n C dX11_put_20 rfl 0 rfl 21 rfl ?_
      refine g_dup C dX11_put_21 rfl 22 rfl ?_
      refine wgX11_171_0 C dX11_put_22 25 rfl ?_
      refine g_iconst C (v := 1) dX11_put_25 (by decide) 26 rfl ?_
      refine g_iadd C dX11_put_26 27 rfl ?_
      obtain ⟨σ_5, eσ_5, h⟩ := o_lt h
      refine wpX11_171_0 C eσ_5 dX11_put_27 30 rfl ?_
      obtain ⟨x2_6, ex2_6, h⟩ := o_lt h
      refine g_iinc C (lv' := [(2, .int x2_6), (0, .ref (ad 0)), (1, .int x1)]) ex2_6 dX11_put_30 2 rfl (by decide) (by decide) rfl 33 rfl ?_
      refine g_goto C 3 dX11_put_33 (by decide) ?_
      exact g_sub C [1, 2, 0] rfl (ih x1 x2_6 σ_5 h)
set_option maxHeartbeats 4000000 in
set_option maxRecDepth 100000 in
theorem kX11_put {l : Launch} {D : va_G} {ad : Nat → Nat} {cI cJ cB cZ : ClassId}  {n : Nat} {x1 : Int32} {σ : ST} {res : ST} (h : fX11_put n x1 σ = some res) : CMv l D (tyz cI cJ cB cZ) (wM ad cI cJ cB cZ) 0 yX11_put cX11_put 3 none [.ref (ad 0), .int x1] σ res := by
  refine cmv_body (own := RX11) (lv := [(0, .ref (ad 0)), (1, .int x1)]) (by decide) rfl (wM_addr _ _ _ _ _) (Nat.le_of_ble_eq_true rfl) rfl (fun p e s m args below meth c A C hr => ?_)
  unfold fX11_put at h
  refine g_bipush C (v := 24) dX11_put_0 (by decide) 2 rfl ?_
  obtain ⟨x2_1, ex2_1, h⟩ := o_lt h
  refine g_istore_n C (lv' := [(2, .int x2_1), (0, .ref (ad 0)), (1, .int x1)]) ex2_1 dX11_put_2 rfl (by decide) rfl 3 rfl ?_
  exact g_sub C [1, 2, 0] rfl (kX11_put_L3 C hr  n x1 x2_1 σ h)
end WK
/-! X11_feed public int feed(int, int, int, int, int); -/
def fX11_feed (n : Nat) (x1 : Int32) (x2 : Int32) (x3 : Int32) (x4 : Int32) (x5 : Int32) (σ : ST) : Option (Int32 × ST) :=
  (if ((gI σ 1) + ((20 : Int32))) ≤ ((2000 : Int32)) then (Option.bind (fX11_put n x1 σ) (fun q_2 => (Option.bind (fX11_put n x2 q_2) (fun q_3 => (Option.bind (fX11_put n x3 q_3) (fun q_4 => (Option.bind (fX11_put n x4 q_4) (fun q_5 => (Option.bind (fX11_put n x5 q_5) (fun q_6 => (some (gI q_6 1, q_6)))))))))))) else (some ((-1 : Int32), σ)))
section WK
variable {p : Program} {l : Launch} {e : Env} {R : Room} {s : State} {m : MethodId} {args : Array Value} {below : List Frame} {meth : Method} {c : Code} {Q : State → Prop}
variable {D : va_G} {ad : Nat → Nat} {cI cJ cB cZ : ClassId} {A : Nat → Prop} {cc : ByteArray} {nL lev : Nat}
variable {σ : ST} {pc : Nat} {lv : List (Nat × Value)} {st : List Value}
set_option maxHeartbeats 4000000 in
set_option maxRecDepth 100000 in
theorem kX11_feed {l : Launch} {D : va_G} {ad : Nat → Nat} {cI cJ cB cZ : ClassId}  {n : Nat} {x1 : Int32} {x2 : Int32} {x3 : Int32} {x4 : Int32} {x5 : Int32} {σ : ST} {res : Int32 × ST} (h : fX11_feed n x1 x2 x3 x4 x5 σ = some res) : CMi l D (tyz cI cJ cB cZ) (wM ad cI cJ cB cZ) 1 yX11_feed cX11_feed 6 (some .int) [.ref (ad 0), .int x1, .int x2, .int x3, .int x4, .int x5] σ res := by
  refine cmi_body (own := RX11) (lv := [(0, .ref (ad 0)), (1, .int x1), (2, .int x2), (3, .int x3), (4, .int x4), (5, .int x5)]) (by decide) rfl (wM_addr _ _ _ _ _) (Nat.le_of_ble_eq_true rfl) rfl (fun p e s m args below meth c A C hr => ?_)
  unfold fX11_feed at h
  refine g_aload_n C dX11_feed_0 rfl 0 rfl 1 rfl ?_
  refine wgX11_171_0 C dX11_feed_1 4 rfl ?_
  refine g_bipush C (v := 20) dX11_feed_4 (by decide) 6 rfl ?_
  refine g_iadd C dX11_feed_6 7 rfl ?_
  refine g_sipush C (v := 2000) dX11_feed_7 (by decide) 10 rfl ?_
  refine g_icmp_le C 15 dX11_feed_10 (by decide) 13 rfl (fun c_1 => ?_) (fun c_1 => ?_)
  · have h := o_pos h c_1
    refine g_aload_n C dX11_feed_15 rfl 0 rfl 16 rfl ?_
    refine g_iload_n C dX11_feed_16 rfl 1 rfl 17 rfl ?_
    obtain ⟨q_2, hq_2, h⟩ := o_bind h
    refine wcX11_174_M_0 C (kX11_put hq_2) (by decide) (Nat.le_of_ble_eq_true rfl) dX11_feed_17 20 rfl ?_
    refine g_aload_n C dX11_feed_20 rfl 0 rfl 21 rfl ?_
    refine g_iload_n C dX11_feed_21 rfl 2 rfl 22 rfl ?_
    obtain ⟨q_3, hq_3, h⟩ := o_bind h
    refine wcX11_174_M_0 C (kX11_put hq_3) (by decide) (Nat.le_of_ble_eq_true rfl) dX11_feed_22 25 rfl ?_
    refine g_aload_n C dX11_feed_25 rfl 0 rfl 26 rfl ?_
    refine g_iload_n C dX11_feed_26 rfl 3 rfl 27 rfl ?_
    obtain ⟨q_4, hq_4, h⟩ := o_bind h
    refine wcX11_174_M_0 C (kX11_put hq_4) (by decide) (Nat.le_of_ble_eq_true rfl) dX11_feed_27 30 rfl ?_
    refine g_aload_n C dX11_feed_30 rfl 0 rfl 31 rfl ?_
    refine g_iload C dX11_feed_31 4 rfl 33 rfl ?_
    obtain ⟨q_5, hq_5, h⟩ := o_bind h
    refine wcX11_174_M_0 C (kX11_put hq_5) (by decide) (Nat.le_of_ble_eq_true rfl) dX11_feed_33 36 rfl ?_
    refine g_aload_n C dX11_feed_36 rfl 0 rfl 37 rfl ?_
    refine g_iload C dX11_feed_37 5 rfl 39 rfl ?_
    obtain ⟨q_6, hq_6, h⟩ := o_bind h
    refine wcX11_174_M_0 C (kX11_put hq_6) (by decide) (Nat.le_of_ble_eq_true rfl) dX11_feed_39 42 rfl ?_
    refine g_aload_n C dX11_feed_42 rfl 0 rfl 43 rfl ?_
    refine wgX11_171_0 C dX11_feed_43 46 rfl ?_
    exact g_iret C hr dX11_feed_46 h
  · have h := o_neg h c_1
    refine g_iconst C (v := -1) dX11_feed_13 (by decide) 14 rfl ?_
    exact g_iret C hr dX11_feed_14 h
end WK
/-! X11_back public int back(int); -/
def fX11_back (x1 : Int32) (σ : ST) : Option (Int32 × ST) :=
  (if x1 < 0 then (some ((-1 : Int32), σ)) else (if x1 ≤ (gI σ 1) then (lt (sI σ 1 ((gI σ 1) - x1)) (fun σ_3 => (some (gI σ_3 1, σ_3)))) else (some ((-1 : Int32), σ))))
section WK
variable {p : Program} {l : Launch} {e : Env} {R : Room} {s : State} {m : MethodId} {args : Array Value} {below : List Frame} {meth : Method} {c : Code} {Q : State → Prop}
variable {D : va_G} {ad : Nat → Nat} {cI cJ cB cZ : ClassId} {A : Nat → Prop} {cc : ByteArray} {nL lev : Nat}
variable {σ : ST} {pc : Nat} {lv : List (Nat × Value)} {st : List Value}
set_option maxHeartbeats 4000000 in
set_option maxRecDepth 100000 in
theorem kX11_back {l : Launch} {D : va_G} {ad : Nat → Nat} {cI cJ cB cZ : ClassId}  {x1 : Int32} {σ : ST} {res : Int32 × ST} (h : fX11_back x1 σ = some res) : CMi l D (tyz cI cJ cB cZ) (wM ad cI cJ cB cZ) 0 yX11_back cX11_back 2 (some .int) [.ref (ad 0), .int x1] σ res := by
  refine cmi_body (own := RX11) (lv := [(0, .ref (ad 0)), (1, .int x1)]) (by decide) rfl (wM_addr _ _ _ _ _) (Nat.le_of_ble_eq_true rfl) rfl (fun p e s m args below meth c A C hr => ?_)
  unfold fX11_back at h
  refine g_iload_n C dX11_back_0 rfl 1 rfl 1 rfl ?_
  refine g_if_lt C 12 dX11_back_1 (by decide) 4 rfl (fun c_1 => ?_) (fun c_1 => ?_)
  · have h := o_pos h c_1
    refine g_iconst C (v := -1) dX11_back_12 (by decide) 13 rfl ?_
    exact g_iret C hr dX11_back_13 h
  · have h := o_neg h c_1
    refine g_iload_n C dX11_back_4 rfl 1 rfl 5 rfl ?_
    refine g_aload_n C dX11_back_5 rfl 0 rfl 6 rfl ?_
    refine wgX11_171_0 C dX11_back_6 9 rfl ?_
    refine g_icmp_le C 14 dX11_back_9 (by decide) 12 rfl (fun c_2 => ?_) (fun c_2 => ?_)
    · have h := o_pos h c_2
      refine g_aload_n C dX11_back_14 rfl 0 rfl 15 rfl ?_
      refine g_dup C dX11_back_15 rfl 16 rfl ?_
      refine wgX11_171_0 C dX11_back_16 19 rfl ?_
      refine g_iload_n C dX11_back_19 rfl 1 rfl 20 rfl ?_
      refine g_isub C dX11_back_20 21 rfl ?_
      obtain ⟨σ_3, eσ_3, h⟩ := o_lt h
      refine wpX11_171_0 C eσ_3 dX11_back_21 24 rfl ?_
      refine g_aload_n C dX11_back_24 rfl 0 rfl 25 rfl ?_
      refine wgX11_171_0 C dX11_back_25 28 rfl ?_
      exact g_iret C hr dX11_back_28 h
    · have h := o_neg h c_2
      refine g_iconst C (v := -1) dX11_back_12 (by decide) 13 rfl ?_
      exact g_iret C hr dX11_back_13 h
end WK
/-! X11_at private int at(int); -/
def fX11_at (x1 : Int32) (σ : ST) : Option (Int32 × ST) :=
  (if (gI σ 2) ≤ x1 then (some ((0 : Int32), σ)) else (if ix x1 2000 then (some ((ldA σ 2 x1) &&& ((255 : Int32)), σ)) else none))
section WK
variable {p : Program} {l : Launch} {e : Env} {R : Room} {s : State} {m : MethodId} {args : Array Value} {below : List Frame} {meth : Method} {c : Code} {Q : State → Prop}
variable {D : va_G} {ad : Nat → Nat} {cI cJ cB cZ : ClassId} {A : Nat → Prop} {cc : ByteArray} {nL lev : Nat}
variable {σ : ST} {pc : Nat} {lv : List (Nat × Value)} {st : List Value}
set_option maxHeartbeats 4000000 in
set_option maxRecDepth 100000 in
theorem kX11_at {l : Launch} {D : va_G} {ad : Nat → Nat} {cI cJ cB cZ : ClassId}  {x1 : Int32} {σ : ST} {res : Int32 × ST} (h : fX11_at x1 σ = some res) : CMi l D (tyz cI cJ cB cZ) (wM ad cI cJ cB cZ) 0 yX11_at cX11_at 2 (some .int) [.ref (ad 0), .int x1] σ res := by
  refine cmi_body (own := RX11) (lv := [(0, .ref (ad 0)), (1, .int x1)]) (by decide) rfl (wM_addr _ _ _ _ _) (Nat.le_of_ble_eq_true rfl) rfl (fun p e s m args below meth c A C hr => ?_)
  unfold fX11_at at h
  refine g_iload_n C dX11_at_0 rfl 1 rfl 1 rfl ?_
  refine g_aload_n C dX11_at_1 rfl 0 rfl 2 rfl ?_
  refine wgX11_178_0 C dX11_at_2 5 rfl ?_
  refine g_icmp_ge C 21 dX11_at_5 (by decide) 8 rfl (fun c_1 => ?_) (fun c_1 => ?_)
  · have h := o_pos h c_1
    refine g_iconst C (v := 0) dX11_at_21 (by decide) 22 rfl ?_
    exact g_iret C hr dX11_at_22 h
  · have h := o_neg h c_1
    refine g_aload_n C dX11_at_8 rfl 0 rfl 9 rfl ?_
    refine wgX11_17_0 C dX11_at_9 12 rfl ?_
    refine g_iload_n C dX11_at_12 rfl 1 rfl 13 rfl ?_
    obtain ⟨c_2, h⟩ := o_chk h
    refine wlM_2 C c_2 dX11_at_13 14 rfl ?_
    refine g_sipush C (v := 255) dX11_at_14 (by decide) 17 rfl ?_
    refine g_iand C dX11_at_17 18 rfl ?_
    refine g_goto C 22 dX11_at_18 (by decide) ?_
    exact g_iret C hr dX11_at_22 h
end WK
/-! X11_isLetter private static boolean isLetter(int); -/
def fX11_isLetter (x0 : Int32) (σ : ST) : Option (Int32 × ST) :=
  (if x0 < ((97 : Int32)) then (some ((0 : Int32), σ)) else (if ((122 : Int32)) < x0 then (some ((0 : Int32), σ)) else (some ((1 : Int32), σ))))
section WK
variable {p : Program} {l : Launch} {e : Env} {R : Room} {s : State} {m : MethodId} {args : Array Value} {below : List Frame} {meth : Method} {c : Code} {Q : State → Prop}
variable {D : va_G} {ad : Nat → Nat} {cI cJ cB cZ : ClassId} {A : Nat → Prop} {cc : ByteArray} {nL lev : Nat}
variable {σ : ST} {pc : Nat} {lv : List (Nat × Value)} {st : List Value}
set_option maxHeartbeats 4000000 in
set_option maxRecDepth 100000 in
theorem kX11_isLetter {l : Launch} {D : va_G} {ad : Nat → Nat} {cI cJ cB cZ : ClassId}  {x0 : Int32} {σ : ST} {res : Int32 × ST} (h : fX11_isLetter x0 σ = some res) : CMi l D (tyz cI cJ cB cZ) (wM ad cI cJ cB cZ) 0 yX11_isLetter cX11_isLetter 1 (some .boolean) [.int x0] σ res := by
  refine cmi_body (own := RX11) (lv := [(0, .int x0)]) (by decide) rfl (wM_addr _ _ _ _ _) (Nat.le_of_ble_eq_true rfl) rfl (fun p e s m args below meth c A C hr => ?_)
  unfold fX11_isLetter at h
  refine g_iload_n C dX11_isLetter_0 rfl 0 rfl 1 rfl ?_
  refine g_bipush C (v := 97) dX11_isLetter_1 (by decide) 3 rfl ?_
  refine g_icmp_lt C 16 dX11_isLetter_3 (by decide) 6 rfl (fun c_1 => ?_) (fun c_1 => ?_)
  · have h := o_pos h c_1
    refine g_iconst C (v := 0) dX11_isLetter_16 (by decide) 17 rfl ?_
    exact g_zret C hr (by decide) dX11_isLetter_17 h
  · have h := o_neg h c_1
    refine g_iload_n C dX11_isLetter_6 rfl 0 rfl 7 rfl ?_
    refine g_bipush C (v := 122) dX11_isLetter_7 (by decide) 9 rfl ?_
    refine g_icmp_gt C 16 dX11_isLetter_9 (by decide) 12 rfl (fun c_2 => ?_) (fun c_2 => ?_)
    · have h := o_pos h c_2
      refine g_iconst C (v := 0) dX11_isLetter_16 (by decide) 17 rfl ?_
      exact g_zret C hr (by decide) dX11_isLetter_17 h
    · have h := o_neg h c_2
      refine g_iconst C (v := 1) dX11_isLetter_12 (by decide) 13 rfl ?_
      refine g_goto C 17 dX11_isLetter_13 (by decide) ?_
      exact g_zret C hr (by decide) dX11_isLetter_17 h
end WK
/-! X11_isDigit private static boolean isDigit(int); -/
def fX11_isDigit (x0 : Int32) (σ : ST) : Option (Int32 × ST) :=
  (if x0 < ((48 : Int32)) then (some ((0 : Int32), σ)) else (if ((57 : Int32)) < x0 then (some ((0 : Int32), σ)) else (some ((1 : Int32), σ))))
section WK
variable {p : Program} {l : Launch} {e : Env} {R : Room} {s : State} {m : MethodId} {args : Array Value} {below : List Frame} {meth : Method} {c : Code} {Q : State → Prop}
variable {D : va_G} {ad : Nat → Nat} {cI cJ cB cZ : ClassId} {A : Nat → Prop} {cc : ByteArray} {nL lev : Nat}
variable {σ : ST} {pc : Nat} {lv : List (Nat × Value)} {st : List Value}
set_option maxHeartbeats 4000000 in
set_option maxRecDepth 100000 in
theorem kX11_isDigit {l : Launch} {D : va_G} {ad : Nat → Nat} {cI cJ cB cZ : ClassId}  {x0 : Int32} {σ : ST} {res : Int32 × ST} (h : fX11_isDigit x0 σ = some res) : CMi l D (tyz cI cJ cB cZ) (wM ad cI cJ cB cZ) 0 yX11_isDigit cX11_isDigit 1 (some .boolean) [.int x0] σ res := by
  refine cmi_body (own := RX11) (lv := [(0, .int x0)]) (by decide) rfl (wM_addr _ _ _ _ _) (Nat.le_of_ble_eq_true rfl) rfl (fun p e s m args below meth c A C hr => ?_)
  unfold fX11_isDigit at h
  refine g_iload_n C dX11_isDigit_0 rfl 0 rfl 1 rfl ?_
  refine g_bipush C (v := 48) dX11_isDigit_1 (by decide) 3 rfl ?_
  refine g_icmp_lt C 16 dX11_isDigit_3 (by decide) 6 rfl (fun c_1 => ?_) (fun c_1 => ?_)
  · have h := o_pos h c_1
    refine g_iconst C (v := 0) dX11_isDigit_16 (by decide) 17 rfl ?_
    exact g_zret C hr (by decide) dX11_isDigit_17 h
  · have h := o_neg h c_1
    refine g_iload_n C dX11_isDigit_6 rfl 0 rfl 7 rfl ?_
    refine g_bipush C (v := 57) dX11_isDigit_7 (by decide) 9 rfl ?_
    refine g_icmp_gt C 16 dX11_isDigit_9 (by decide) 12 rfl (fun c_2 => ?_) (fun c_2 => ?_)
    · have h := o_pos h c_2
      refine g_iconst C (v := 0) dX11_isDigit_16 (by decide) 17 rfl ?_
      exact g_zret C hr (by decide) dX11_isDigit_17 h
    · have h := o_neg h c_2
      refine g_iconst C (v := 1) dX11_isDigit_12 (by decide) 13 rfl ?_
      refine g_goto C 17 dX11_isDigit_13 (by decide) ?_
      exact g_zret C hr (by decide) dX11_isDigit_17 h
end WK
/-! X11_token private void token(int, int, int, long); -/
def fX11_token (x1 : Int32) (x2 : Int32) (x3 : Int32) (x4 : Int64) (σ : ST) : Option (ST) :=
  (if ix (gI σ 3) 403 then (lt (stA σ 3 (gI σ 3) x1) (fun σ_2 => (if ix (gI σ_2 3) 403 then (lt (stA σ_2 4 (gI σ_2 3) x2) (fun σ_4 => (if ix (gI σ_4 3) 403 then (lt (stA σ_4 5 (gI σ_4 3) x3) (fun σ_6 => (if ix (gI σ_6 3) 403 then (lt (stB σ_6 6 (gI σ_6 3) x4) (fun σ_8 => (lt (sI σ_8 3 ((gI σ_8 3) + ((1 : Int32)))) (fun σ_9 => (some σ_9))))) else none))) else none))) else none))) else none)
section WK
variable {p : Program} {l : Launch} {e : Env} {R : Room} {s : State} {m : MethodId} {args : Array Value} {below : List Frame} {meth : Method} {c : Code} {Q : State → Prop}
variable {D : va_G} {ad : Nat → Nat} {cI cJ cB cZ : ClassId} {A : Nat → Prop} {cc : ByteArray} {nL lev : Nat}
variable {σ : ST} {pc : Nat} {lv : List (Nat × Value)} {st : List Value}
set_option maxHeartbeats 4000000 in
set_option maxRecDepth 100000 in
theorem kX11_token {l : Launch} {D : va_G} {ad : Nat → Nat} {cI cJ cB cZ : ClassId}  {x1 : Int32} {x2 : Int32} {x3 : Int32} {x4 : Int64} {σ : ST} {res : ST} (h : fX11_token x1 x2 x3 x4 σ = some res) : CMv l D (tyz cI cJ cB cZ) (wM ad cI cJ cB cZ) 0 yX11_token cX11_token 6 none [.ref (ad 0), .int x1, .int x2, .int x3, .long x4] σ res := by
  refine cmv_body (own := RX11) (lv := [(0, .ref (ad 0)), (1, .int x1), (2, .int x2), (3, .int x3), (4, .long x4)]) (by decide) rfl (wM_addr _ _ _ _ _) (Nat.le_of_ble_eq_true rfl) rfl (fun p e s m args below meth c A C hr => ?_)
  unfold fX11_token at h
  refine g_aload_n C dX11_token_0 rfl 0 rfl 1 rfl ?_
  refine wgX11_20_0 C dX11_token_1 4 rfl ?_
  refine g_aload_n C dX11_token_4 rfl 0 rfl 5 rfl ?_
  refine wgX11_191_0 C dX11_token_5 8 rfl ?_
  refine g_iload_n C dX11_token_8 rfl 1 rfl 9 rfl ?_
  obtain ⟨c_1, h⟩ := o_chk h
  obtain ⟨σ_2, eσ_2, h⟩ := o_lt h
  refine wtM_3 C eσ_2 c_1 dX11_token_9 10 rfl ?_
  refine g_aload_n C dX11_token_10 rfl 0 rfl 11 rfl ?_
  refine wgX11_24_0 C dX11_token_11 14 rfl ?_
  refine g_aload_n C dX11_token_14 rfl 0 rfl 15 rfl ?_
  refine wgX11_191_0 C dX11_token_15 18 rfl ?_
  refine g_iload_n C dX11_token_18 rfl 2 rfl 19 rfl ?_
  obtain ⟨c_3, h⟩ := o_chk h
  obtain ⟨σ_4, eσ_4, h⟩ := o_lt h
  refine wtM_4 C eσ_4 c_3 dX11_token_19 20 rfl ?_
  refine g_aload_n C dX11_token_20 rfl 0 rfl 21 rfl ?_
  refine wgX11_27_0 C dX11_token_21 24 rfl ?_
  refine g_aload_n C dX11_token_24 rfl 0 rfl 25 rfl ?_
  refine wgX11_191_0 C dX11_token_25 28 rfl ?_
  refine g_iload_n C dX11_token_28 rfl 3 rfl 29 rfl ?_
  obtain ⟨c_5, h⟩ := o_chk h
  obtain ⟨σ_6, eσ_6, h⟩ := o_lt h
  refine wtM_5 C eσ_6 c_5 dX11_token_29 30 rfl ?_
  refine g_aload_n C dX11_token_30 rfl 0 rfl 31 rfl ?_
  refine wgX11_30_0 C dX11_token_31 34 rfl ?_
  refine g_aload_n C dX11_token_34 rfl 0 rfl 35 rfl ?_
  refine wgX11_191_0 C dX11_token_35 38 rfl ?_
  refine g_lload C dX11_token_38 4 rfl 40 rfl ?_
  obtain ⟨c_7, h⟩ := o_chk h
  obtain ⟨σ_8, eσ_8, h⟩ := o_lt h
  refine wtM_6 C eσ_8 c_7 dX11_token_40 41 rfl ?_
  refine g_aload_n C dX11_token_41 rfl 0 rfl 42 rfl ?_
  refine g_dup C dX11_token_42 rfl 43 rfl ?_
  refine wgX11_191_0 C dX11_token_43 46 rfl ?_
  refine g_iconst C (v := 1) dX11_token_46 (by decide) 47 rfl ?_
  refine g_iadd C dX11_token_47 48 rfl ?_
  obtain ⟨σ_9, eσ_9, h⟩ := o_lt h
  refine wpX11_191_0 C eσ_9 dX11_token_48 51 rfl ?_
  exact g_vret C hr dX11_token_51 h
end WK
/-! X11_more private static long more(long, int); -/
def fX11_more (x0 : Int64) (x2 : Int32) (σ : ST) : Option (Int64 × ST) :=
  (if x2 = 0 then (some (x0, σ)) else (Option.bind (fX11_isDigit x2 σ) (fun q_2 => (if q_2.1 = 0 then (some ((((37 : Int64)) * x0) + (((x2 - ((97 : Int32))) + ((1 : Int32))).toInt64), q_2.2)) else (some ((((37 : Int64)) * x0) + (((x2 - ((48 : Int32))) + ((27 : Int32))).toInt64), q_2.2))))))
section WK
variable {p : Program} {l : Launch} {e : Env} {R : Room} {s : State} {m : MethodId} {args : Array Value} {below : List Frame} {meth : Method} {c : Code} {Q : State → Prop}
variable {D : va_G} {ad : Nat → Nat} {cI cJ cB cZ : ClassId} {A : Nat → Prop} {cc : ByteArray} {nL lev : Nat}
variable {σ : ST} {pc : Nat} {lv : List (Nat × Value)} {st : List Value}
set_option maxHeartbeats 4000000 in
set_option maxRecDepth 100000 in
theorem kX11_more {l : Launch} {D : va_G} {ad : Nat → Nat} {cI cJ cB cZ : ClassId}  {x0 : Int64} {x2 : Int32} {σ : ST} {res : Int64 × ST} (h : fX11_more x0 x2 σ = some res) : CMl l D (tyz cI cJ cB cZ) (wM ad cI cJ cB cZ) 1 yX11_more cX11_more 3 (some .long) [.long x0, .int x2] σ res := by
  refine cml_body (own := RX11) (lv := [(0, .long x0), (2, .int x2)]) (by decide) rfl (wM_addr _ _ _ _ _) (Nat.le_of_ble_eq_true rfl) rfl (fun p e s m args below meth c A C hr => ?_)
  unfold fX11_more at h
  refine g_iload_n C dX11_more_0 rfl 1 rfl 1 rfl ?_
  refine g_if_ne C 8 dX11_more_1 (by decide) 4 rfl (fun c_1 => ?_) (fun c_1 => ?_)
  · have h := o_neg h c_1
    refine g_ldc2 C (inr_10 _ (List.mem_of_getElem? (i := 2) rfl)) dX11_more_8 11 rfl ?_
    refine g_lload_n C dX11_more_11 rfl 0 rfl 12 rfl ?_
    refine g_lmul C dX11_more_12 13 rfl ?_
    refine g_iload_n C dX11_more_13 rfl 1 rfl 14 rfl ?_
    obtain ⟨q_2, hq_2, h⟩ := o_bind h
    refine wcX11_183_M C (kX11_isDigit hq_2) (by decide) (Nat.le_of_ble_eq_true rfl) dX11_more_14 17 rfl ?_
    refine g_if_eq C 30 dX11_more_17 (by decide) 20 rfl (fun c_3 => ?_) (fun c_3 => ?_)
    · have h := o_pos h c_3
      refine g_iload_n C dX11_more_30 rfl 1 rfl 31 rfl ?_
      refine g_bipush C (v := 97) dX11_more_31 (by decide) 33 rfl ?_
      refine g_isub C dX11_more_33 34 rfl ?_
      refine g_iconst C (v := 1) dX11_more_34 (by decide) 35 rfl ?_
      refine g_iadd C dX11_more_35 36 rfl ?_
      refine g_i2l C dX11_more_36 37 rfl ?_
      refine g_ladd C dX11_more_37 38 rfl ?_
      exact g_lret C hr dX11_more_38 h
    · have h := o_neg h c_3
      refine g_iload_n C dX11_more_20 rfl 1 rfl 21 rfl ?_
      refine g_bipush C (v := 48) dX11_more_21 (by decide) 23 rfl ?_
      refine g_isub C dX11_more_23 24 rfl ?_
      refine g_bipush C (v := 27) dX11_more_24 (by decide) 26 rfl ?_
      refine g_iadd C dX11_more_26 27 rfl ?_
      refine g_goto C 36 dX11_more_27 (by decide) ?_
      refine g_i2l C dX11_more_36 37 rfl ?_
      refine g_ladd C dX11_more_37 38 rfl ?_
      exact g_lret C hr dX11_more_38 h
  · have h := o_pos h c_1
    refine g_lload_n C dX11_more_4 rfl 0 rfl 5 rfl ?_
    refine g_goto C 38 dX11_more_5 (by decide) ?_
    exact g_lret C hr dX11_more_38 h
end WK
/-! X11_cut private void cut(); -/
def fX11_cut_L221 (k263 : Int32 → Int32 → Int32 → ST → Option (ST)) : Nat → Int32 → Int32 → Int32 → ST → Option (ST)
  | 0, _, _, _, _ => none
  | n + 1, x1, x3, x4, σ => (Option.bind (fX11_at (x1 + x3) σ) (fun q_34 => (Option.bind (fX11_isDigit q_34.1 q_34.2) (fun q_35 => (if q_35.1 = 0 then (k263 x1 x3 x4 q_35.2) else (if ((4 : Int32)) ≤ x3 then (lt (x3 + 1) (fun x3_38 => (fX11_cut_L221 k263 n x1 x3_38 x4 q_35.2))) else (Option.bind (fX11_at (x1 + x3) q_35.2) (fun q_39 => (lt (((((10 : Int32)) * x4) + q_39.1) - ((48 : Int32))) (fun x4_40 => (lt (x3 + 1) (fun x3_41 => (fX11_cut_L221 k263 n x1 x3_41 x4_40 q_39.2)))))))))))))
def fX11_cut_L85 (k137 : Int32 → Int32 → Int64 → ST → Option (ST)) : Nat → Int32 → Int32 → Int64 → ST → Option (ST)
  | 0, _, _, _, _ => none
  | n + 1, x1, x3, x4, σ => (Option.bind (fX11_at (x1 + x3) σ) (fun q_56 => (Option.bind (fX11_isLetter q_56.1 q_56.2) (fun q_57 => (lt (fun (x1_58 : Int32) (x3_59 : Int32) (x4_60 : Int64) (σ_61 : ST) => (if ((8 : Int32)) ≤ x3_59 then (lt (x3_59 + 1) (fun x3_63 => (fX11_cut_L85 k137 n x1_58 x3_63 x4_60 σ_61))) else (Option.bind (fX11_at (x1_58 + x3_59) σ_61) (fun q_64 => (Option.bind (fX11_more x4_60 q_64.1 q_64.2) (fun q_65 => (lt (q_65.1) (fun x4_66 => (lt (x3_59 + 1) (fun x3_67 => (fX11_cut_L85 k137 n x1_58 x3_67 x4_66 q_65.2))))))))))) (fun j111 => (if q_57.1 = 0 then (Option.bind (fX11_at (x1 + x3) q_57.2) (fun q_69 => (Option.bind (fX11_isDigit q_69.1 q_69.2) (fun q_70 => (if q_70.1 = 0 then (k137 x1 x3 x4 q_70.2) else (j111 x1 x3 x4 q_70.2)))))) else (j111 x1 x3 x4 q_57.2))))))))
def fX11_cut_L159 (k192 : Int32 → Int32 → Int64 → Int32 → ST → Option (ST)) : Nat → Int32 → Int32 → Int64 → Int32 → Int32 → ST → Option (ST)
  | 0, _, _, _, _, _, _ => none
  | n + 1, x1, x3, x4, x6, x7, σ => (if ((9 : Int32)) ≤ x7 then (k192 x1 x3 x4 x6 σ) else (if ix x7 16 then (if (lg_cmp (ldB σ 7 x7) x4) = 0 then (lt (((20 : Int32)) + x7) (fun x6_95 => (lt (x7 + 1) (fun x7_96 => (fX11_cut_L159 k192 n x1 x3 x4 x6_95 x7_96 σ))))) else (lt (x7 + 1) (fun x7_94 => (fX11_cut_L159 k192 n x1 x3 x4 x6 x7_94 σ)))) else none))
def fX11_cut_L7 (k31 : ST → Option (ST)) : Nat → Int32 → ST → Option (ST)
  | 0, _, _ => none
  | n + 1, x1, σ => (if ((400 : Int32)) < (gI σ 3) then (some σ) else (Option.bind (fX11_at x1 σ) (fun q_4 => (lt (q_4.1) (fun x2_5 => (if x1 < (gI q_4.2 2) then (if x2_5 = ((9 : Int32)) then (lt (x1 + 1) (fun x1_8 => (fX11_cut_L7 k31 n x1_8 q_4.2))) else (if x2_5 = ((10 : Int32)) then (lt (x1 + 1) (fun x1_10 => (fX11_cut_L7 k31 n x1_10 q_4.2))) else (if x2_5 = ((13 : Int32)) then (lt (x1 + 1) (fun x1_12 => (fX11_cut_L7 k31 n x1_12 q_4.2))) else (if x2_5 = ((32 : Int32)) then (lt (x1 + 1) (fun x1_103 => (fX11_cut_L7 k31 n x1_103 q_4.2))) else (Option.bind (fX11_isLetter x2_5 q_4.2) (fun q_14 => (if q_14.1 = 0 then (Option.bind (fX11_isDigit x2_5 q_14.2) (fun q_16 => (if q_16.1 = 0 then (lt (fun (x1_18 : Int32) (v_19 : Int32) (σ_20 : ST) => (lt (v_19) (fun x3_21 => (Option.bind (fX11_token x3_21 x1_18 ((0 : Int32)) ((0 : Int64)) σ_20) (fun q_22 => (lt (x1_18 + 1) (fun x1_23 => (fX11_cut_L7 k31 n x1_23 q_22)))))))) (fun j375 => (if x2_5 = ((61 : Int32)) then (j375 x1 ((4 : Int32)) q_16.2) else (if x2_5 = ((44 : Int32)) then (j375 x1 ((5 : Int32)) q_16.2) else (if x2_5 = ((59 : Int32)) then (j375 x1 ((6 : Int32)) q_16.2) else (if x2_5 = ((40 : Int32)) then (j375 x1 ((7 : Int32)) q_16.2) else (if x2_5 = ((41 : Int32)) then (j375 x1 ((8 : Int32)) q_16.2) else (if x2_5 = ((43 : Int32)) then (j375 x1 ((9 : Int32)) q_16.2) else (if x2_5 = ((45 : Int32)) then (j375 x1 ((10 : Int32)) q_16.2) else (if x2_5 = ((42 : Int32)) then (j375 x1 ((11 : Int32)) q_16.2) else (j375 x1 ((3 : Int32)) q_16.2))))))))))) else (lt ((0 : Int32)) (fun x3_32 => (lt ((0 : Int32)) (fun x4_33 => (fX11_cut_L221 (fun (x1_42 : Int32) (x3_43 : Int32) (x4_44 : Int32) (σ_45 : ST) => (lt (fun (x1_46 : Int32) (x3_47 : Int32) (x4_48 : Int32) (v_49 : Int32) (σ_50 : ST) => (Option.bind (fX11_token v_49 x1_46 x4_48 ((0 : Int64)) σ_50) (fun q_51 => (lt (x1_46 + x3_47) (fun x1_52 => (fX11_cut_L7 k31 n x1_52 q_51)))))) (fun j274 => (if x3_43 ≤ ((4 : Int32)) then (j274 x1_42 x3_43 x4_44 ((2 : Int32)) σ_45) else (j274 x1_42 x3_43 x4_44 ((3 : Int32)) σ_45))))) n x1 x3_32 x4_33 q_16.2)))))))) else (lt ((0 : Int32)) (fun x3_54 => (lt ((0 : Int64)) (fun x4_55 => (fX11_cut_L85 (fun (x1_72 : Int32) (x3_73 : Int32) (x4_74 : Int64) (σ_75 : ST) => (lt (fun (x1_76 : Int32) (x3_77 : Int32) (x4_78 : Int64) (v_79 : Int32) (σ_80 : ST) => (lt (v_79) (fun x6_81 => (lt (fun (x1_82 : Int32) (x3_83 : Int32) (x4_84 : Int64) (x6_85 : Int32) (σ_86 : ST) => (Option.bind (fX11_token x6_85 x1_82 ((0 : Int32)) x4_84 σ_86) (fun q_87 => (lt (x1_82 + x3_83) (fun x1_88 => (fX11_cut_L7 k31 n x1_88 q_87)))))) (fun j192 => (if ((6 : Int32)) < x3_77 then (j192 x1_76 x3_77 x4_78 x6_81 σ_80) else (lt ((0 : Int32)) (fun x7_90 => (fX11_cut_L159 (fun (x1_97 : Int32) (x3_98 : Int32) (x4_99 : Int64) (x6_100 : Int32) (σ_101 : ST) => (j192 x1_97 x3_98 x4_99 x6_100 σ_101)) n x1_76 x3_77 x4_78 x6_81 x7_90 σ_80))))))))) (fun j148 => (if x3_73 ≤ ((8 : Int32)) then (j148 x1_72 x3_73 x4_74 ((1 : Int32)) σ_75) else (j148 x1_72 x3_73 x4_74 ((3 : Int32)) σ_75))))) n x1 x3_54 x4_55 q_14.2)))))))))))) else (k31 q_4.2)))))))
def fX11_cut (n : Nat)  (σ : ST) : Option (ST) :=
  (lt (sI σ 3 ((0 : Int32))) (fun σ_1 => (lt ((0 : Int32)) (fun x1_2 => (fX11_cut_L7 (fun (σ_104 : ST) => (Option.bind (fX11_token ((0 : Int32)) (gI σ_104 2) ((0 : Int32)) ((0 : Int64)) σ_104) (fun q_105 => (some q_105)))) n x1_2 σ_1)))))
section WK
variable {p : Program} {l : Launch} {e : Env} {R : Room} {s : State} {m : MethodId} {args : Array Value} {below : List Frame} {meth : Method} {c : Code} {Q : State → Prop}
variable {D : va_G} {ad : Nat → Nat} {cI cJ cB cZ : ClassId} {A : Nat → Prop} {cc : ByteArray} {nL lev : Nat}
variable {σ : ST} {pc : Nat} {lv : List (Nat × Value)} {st : List Value}
set_option maxHeartbeats 4000000 in
set_option maxRecDepth 100000 in
theorem kX11_cut_L221 (C : Ctx p l e (rmL 2) s m args below meth c D (tyz cI cJ cB cZ) (wM ad cI cJ cB cZ) A cX11_cut 8 2 RX11) (hr : meth.sig.returnType = none) {res : ST} {k263 : Int32 → Int32 → Int32 → ST → Option (ST)} (hk263 : ∀ (x1 : Int32) (x3 : Int32) (x4 : Int32) (σ : ST), k263 x1 x3 x4 σ = some res → G p l e (rmL 2) s m args below meth c (MQ below (Qv D (tyz cI cJ cB cZ) (wM ad cI cJ cB cZ) A res) args s 0 0 A) D (wM ad cI cJ cB cZ) A 8 σ 263 [(0, .ref (ad 0)), (1, .int x1), (3, .int x3), (4, .int x4)] []) : ∀ (n : Nat) (x1 : Int32) (x3 : Int32) (x4 : Int32) (σ : ST), fX11_cut_L221 k263 n x1 x3 x4 σ = some res → G p l e (rmL 2) s m args below meth c (MQ below (Qv D (tyz cI cJ cB cZ) (wM ad cI cJ cB cZ) A res) args s 0 0 A) D (wM ad cI cJ cB cZ) A 8 σ 221 [(0, .ref (ad 0)), (1, .int x1), (3, .int x3), (4, .int x4)] [] := by
  intro n
  induction n with
  | zero => intro x1 x3 x4 σ h; have h : none = some res := h; cases h
  | succ n ih =>
    intro x1 x3 x4 σ h
    rw [fX11_cut_L221] at h
    refine g_aload_n C dX11_cut_221 rfl 0 rfl 222 rfl ?_
    refine g_iload_n C dX11_cut_222 rfl 1 rfl 223 rfl ?_
    refine g_iload_n C dX11_cut_223 rfl 2 rfl 224 rfl ?_
    refine g_iadd C dX11_cut_224 225 rfl ?_
    obtain ⟨q_34, hq_34, h⟩ := o_bind h
    refine wcX11_194_M_0 C (kX11_at hq_34) (by decide) (Nat.le_of_ble_eq_true rfl) dX11_cut_225 228 rfl ?_
    obtain ⟨q_35, hq_35, h⟩ := o_bind h
    refine wcX11_183_M C (kX11_isDigit hq_35) (by decide) (Nat.le_of_ble_eq_true rfl) dX11_cut_228 231 rfl ?_
    refine g_if_eq C 263 dX11_cut_231 (by decide) 234 rfl (fun c_36 => ?_) (fun c_36 => ?_)
    · have h := o_pos h c_36
      exact g_sub C [0, 1, 2, 3] rfl (hk263 x1 x3 x4 q_35.2 h)
    · have h := o_neg h c_36
      refine g_iload_n C dX11_cut_234 rfl 2 rfl 235 rfl ?_
      refine g_iconst C (v := 4) dX11_cut_235 (by decide) 236 rfl ?_
      refine g_icmp_ge C 257 dX11_cut_236 (by decide) 239 rfl (fun c_37 => ?_) (fun c_37 => ?_)
      · have h := o_pos h c_37
        obtain ⟨x3_38, ex3_38, h⟩ := o_lt h
        refine g_iinc C (lv' := [(3, .int x3_38), (0, .ref (ad 0)), (1, .int x1), (4, .int x4)]) ex3_38 dX11_cut_257 2 rfl (by decide) (by decide) rfl 260 rfl ?_
        refine g_goto C 221 dX11_cut_260 (by decide) ?_
        exact g_sub C [1, 2, 0, 3] rfl (ih x1 x3_38 x4 q_35.2 h)
      · have h := o_neg h c_37
        refine g_bipush C (v := 10) dX11_cut_239 (by decide) 241 rfl ?_
        refine g_iload C dX11_cut_241 3 rfl 243 rfl ?_
        refine g_imul C dX11_cut_243 244 rfl ?_
        refine g_aload_n C dX11_cut_244 rfl 0 rfl 245 rfl ?_
        refine g_iload_n C dX11_cut_245 rfl 1 rfl 246 rfl ?_
        refine g_iload_n C dX11_cut_246 rfl 2 rfl 247 rfl ?_
        refine g_iadd C dX11_cut_247 248 rfl ?_
        obtain ⟨q_39, hq_39, h⟩ := o_bind h
        refine wcX11_194_M_0 C (kX11_at hq_39) (by decide) (Nat.le_of_ble_eq_true rfl) dX11_cut_248 251 rfl ?_
        refine g_iadd C dX11_cut_251 252 rfl ?_
        refine g_bipush C (v := 48) dX11_cut_252 (by decide) 254 rfl ?_
        refine g_isub C dX11_cut_254 255 rfl ?_
        obtain ⟨x4_40, ex4_40, h⟩ := o_lt h
        refine g_istore C (lv' := [(4, .int x4_40), (0, .ref (ad 0)), (1, .int x1), (3, .int x3)]) ex4_40 dX11_cut_255 (by decide) rfl 257 rfl ?_
        obtain ⟨x3_41, ex3_41, h⟩ := o_lt h
        refine g_iinc C (lv' := [(3, .int x3_41), (4, .int x4_40), (0, .ref (ad 0)), (1, .int x1)]) ex3_41 dX11_cut_257 3 rfl (by decide) (by decide) rfl 260 rfl ?_
        refine g_goto C 221 dX11_cut_260 (by decide) ?_
        exact g_sub C [2, 3, 0, 1] rfl (ih x1 x3_41 x4_40 q_39.2 h)
set_option maxHeartbeats 4000000 in
set_option maxRecDepth 100000 in
theorem kX11_cut_L85 (C : Ctx p l e (rmL 2) s m args below meth c D (tyz cI cJ cB cZ) (wM ad cI cJ cB cZ) A cX11_cut 8 2 RX11) (hr : meth.sig.returnType = none) {res : ST} {k137 : Int32 → Int32 → Int64 → ST → Option (ST)} (hk137 : ∀ (x1 : Int32) (x3 : Int32) (x4 : Int64) (σ : ST), k137 x1 x3 x4 σ = some res → G p l e (rmL 2) s m args below meth c (MQ below (Qv D (tyz cI cJ cB cZ) (wM ad cI cJ cB cZ) A res) args s 0 0 A) D (wM ad cI cJ cB cZ) A 8 σ 137 [(0, .ref (ad 0)), (1, .int x1), (3, .int x3), (4, .long x4)] []) : ∀ (n : Nat) (x1 : Int32) (x3 : Int32) (x4 : Int64) (σ : ST), fX11_cut_L85 k137 n x1 x3 x4 σ = some res → G p l e (rmL 2) s m args below meth c (MQ below (Qv D (tyz cI cJ cB cZ) (wM ad cI cJ cB cZ) A res) args s 0 0 A) D (wM ad cI cJ cB cZ) A 8 σ 85 [(0, .ref (ad 0)), (1, .int x1), (3, .int x3), (4, .long x4)] [] := by
  intro n
  induction n with
  | zero => intro x1 x3 x4 σ h; have h : none = some res := h; cases h
  | succ n ih =>
    intro x1 x3 x4 σ h
    rw [fX11_cut_L85] at h
    refine g_aload_n C dX11_cut_85 rfl 0 rfl 86 rfl ?_
    refine g_iload_n C dX11_cut_86 rfl 1 rfl 87 rfl ?_
    refine g_iload_n C dX11_cut_87 rfl 2 rfl 88 rfl ?_
    refine g_iadd C dX11_cut_88 89 rfl ?_
    obtain ⟨q_56, hq_56, h⟩ := o_bind h
    refine wcX11_194_M_0 C (kX11_at hq_56) (by decide) (Nat.le_of_ble_eq_true rfl) dX11_cut_89 92 rfl ?_
    obtain ⟨q_57, hq_57, h⟩ := o_bind h
    refine wcX11_201_M C (kX11_isLetter hq_57) (by decide) (Nat.le_of_ble_eq_true rfl) dX11_cut_92 95 rfl ?_
    obtain ⟨j111, ej111, h⟩ := o_lt h
    have hj111 : ∀ (x1_58 : Int32) (x3_59 : Int32) (x4_60 : Int64) (σ_61 : ST), j111 x1_58 x3_59 x4_60 σ_61 = some res → G p l e (rmL 2) s m args below meth c (MQ below (Qv D (tyz cI cJ cB cZ) (wM ad cI cJ cB cZ) A res) args s 0 0 A) D (wM ad cI cJ cB cZ) A 8 σ_61 111 [(0, .ref (ad 0)), (1, .int x1_58), (3, .int x3_59), (4, .long x4_60)] [] := by
      intro x1_58 x3_59 x4_60 σ_61 h
      rw [ej111] at h
      refine g_iload_n C dX11_cut_111 rfl 2 rfl 112 rfl ?_
      refine g_bipush C (v := 8) dX11_cut_112 (by decide) 114 rfl ?_
      refine g_icmp_ge C 131 dX11_cut_114 (by decide) 117 rfl (fun c_62 => ?_) (fun c_62 => ?_)
      · have h := o_pos h c_62
        obtain ⟨x3_63, ex3_63, h⟩ := o_lt h
        refine g_iinc C (lv' := [(3, .int x3_63), (0, .ref (ad 0)), (1, .int x1_58), (4, .long x4_60)]) ex3_63 dX11_cut_131 2 rfl (by decide) (by decide) rfl 134 rfl ?_
        refine g_goto C 85 dX11_cut_134 (by decide) ?_
        exact g_sub C [1, 2, 0, 3] rfl (ih x1_58 x3_63 x4_60 σ_61 h)
      · have h := o_neg h c_62
        refine g_lload C dX11_cut_117 3 rfl 119 rfl ?_
        refine g_aload_n C dX11_cut_119 rfl 0 rfl 120 rfl ?_
        refine g_iload_n C dX11_cut_120 rfl 1 rfl 121 rfl ?_
        refine g_iload_n C dX11_cut_121 rfl 2 rfl 122 rfl ?_
        refine g_iadd C dX11_cut_122 123 rfl ?_
        obtain ⟨q_64, hq_64, h⟩ := o_bind h
        refine wcX11_194_M_0 C (kX11_at hq_64) (by decide) (Nat.le_of_ble_eq_true rfl) dX11_cut_123 126 rfl ?_
        obtain ⟨q_65, hq_65, h⟩ := o_bind h
        refine wcX11_187_M C (kX11_more hq_65) (by decide) (Nat.le_of_ble_eq_true rfl) dX11_cut_126 129 rfl ?_
        obtain ⟨x4_66, ex4_66, h⟩ := o_lt h
        refine g_lstore C (lv' := [(4, .long x4_66), (0, .ref (ad 0)), (1, .int x1_58), (3, .int x3_59)]) ex4_66 dX11_cut_129 (by decide) rfl 131 rfl ?_
        obtain ⟨x3_67, ex3_67, h⟩ := o_lt h
        refine g_iinc C (lv' := [(3, .int x3_67), (4, .long x4_66), (0, .ref (ad 0)), (1, .int x1_58)]) ex3_67 dX11_cut_131 3 rfl (by decide) (by decide) rfl 134 rfl ?_
        refine g_goto C 85 dX11_cut_134 (by decide) ?_
        exact g_sub C [2, 3, 0, 1] rfl (ih x1_58 x3_67 x4_66 q_65.2 h)
    refine g_if_ne C 111 dX11_cut_95 (by decide) 98 rfl (fun c_68 => ?_) (fun c_68 => ?_)
    · have h := o_neg h c_68
      exact g_sub C [0, 1, 2, 3] rfl (hj111 x1 x3 x4 q_57.2 h)
    · have h := o_pos h c_68
      refine g_aload_n C dX11_cut_98 rfl 0 rfl 99 rfl ?_
      refine g_iload_n C dX11_cut_99 rfl 1 rfl 100 rfl ?_
      refine g_iload_n C dX11_cut_100 rfl 2 rfl 101 rfl ?_
      refine g_iadd C dX11_cut_101 102 rfl ?_
      obtain ⟨q_69, hq_69, h⟩ := o_bind h
      refine wcX11_194_M_0 C (kX11_at hq_69) (by decide) (Nat.le_of_ble_eq_true rfl) dX11_cut_102 105 rfl ?_
      obtain ⟨q_70, hq_70, h⟩ := o_bind h
      refine wcX11_183_M C (kX11_isDigit hq_70) (by decide) (Nat.le_of_ble_eq_true rfl) dX11_cut_105 108 rfl ?_
      refine g_if_eq C 137 dX11_cut_108 (by decide) 111 rfl (fun c_71 => ?_) (fun c_71 => ?_)
      · have h := o_pos h c_71
        exact g_sub C [0, 1, 2, 3] rfl (hk137 x1 x3 x4 q_70.2 h)
      · have h := o_neg h c_71
        exact g_sub C [0, 1, 2, 3] rfl (hj111 x1 x3 x4 q_70.2 h)
set_option maxHeartbeats 4000000 in
set_option maxRecDepth 100000 in
theorem kX11_cut_L159 (C : Ctx p l e (rmL 2) s m args below meth c D (tyz cI cJ cB cZ) (wM ad cI cJ cB cZ) A cX11_cut 8 2 RX11) (hr : meth.sig.returnType = none) {res : ST} {k192 : Int32 → Int32 → Int64 → Int32 → ST → Option (ST)} (hk192 : ∀ (x1 : Int32) (x3 : Int32) (x4 : Int64) (x6 : Int32) (σ : ST), k192 x1 x3 x4 x6 σ = some res → G p l e (rmL 2) s m args below meth c (MQ below (Qv D (tyz cI cJ cB cZ) (wM ad cI cJ cB cZ) A res) args s 0 0 A) D (wM ad cI cJ cB cZ) A 8 σ 192 [(0, .ref (ad 0)), (1, .int x1), (3, .int x3), (4, .long x4), (6, .int x6)] []) : ∀ (n : Nat) (x1 : Int32) (x3 : Int32) (x4 : Int64) (x6 : Int32) (x7 : Int32) (σ : ST), fX11_cut_L159 k192 n x1 x3 x4 x6 x7 σ = some res → G p l e (rmL 2) s m args below meth c (MQ below (Qv D (tyz cI cJ cB cZ) (wM ad cI cJ cB cZ) A res) args s 0 0 A) D (wM ad cI cJ cB cZ) A 8 σ 159 [(0, .ref (ad 0)), (1, .int x1), (3, .int x3), (4, .long x4), (6, .int x6), (7, .int x7)] [] := by
  intro n
  induction n with
  | zero => intro x1 x3 x4 x6 x7 σ h; have h : none = some res := h; cases h
  | succ n ih =>
    intro x1 x3 x4 x6 x7 σ h
    rw [fX11_cut_L159] at h
    refine g_iload C dX11_cut_159 5 rfl 161 rfl ?_
    refine g_bipush C (v := 9) dX11_cut_161 (by decide) 163 rfl ?_
    refine g_icmp_ge C 192 dX11_cut_163 (by decide) 166 rfl (fun c_91 => ?_) (fun c_91 => ?_)
    · have h := o_pos h c_91
      exact g_sub C [0, 1, 2, 3, 4] rfl (hk192 x1 x3 x4 x6 σ h)
    · have h := o_neg h c_91
      refine g_aload_n C dX11_cut_166 rfl 0 rfl 167 rfl ?_
      refine wgX11_34_0 C dX11_cut_167 170 rfl ?_
      refine g_iload C dX11_cut_170 5 rfl 172 rfl ?_
      obtain ⟨c_92, h⟩ := o_chk h
      refine wlM_7 C c_92 dX11_cut_172 173 rfl ?_
      refine g_lload C dX11_cut_173 3 rfl 175 rfl ?_
      refine g_lcmp C dX11_cut_175 176 rfl ?_
      refine g_if_ne C 186 dX11_cut_176 (by decide) 179 rfl (fun c_93 => ?_) (fun c_93 => ?_)
      · have h := o_neg h c_93
        obtain ⟨x7_94, ex7_94, h⟩ := o_lt h
        refine g_iinc C (lv' := [(7, .int x7_94), (0, .ref (ad 0)), (1, .int x1), (3, .int x3), (4, .long x4), (6, .int x6)]) ex7_94 dX11_cut_186 5 rfl (by decide) (by decide) rfl 189 rfl ?_
        refine g_goto C 159 dX11_cut_189 (by decide) ?_
        exact g_sub C [1, 2, 3, 4, 5, 0] rfl (ih x1 x3 x4 x6 x7_94 σ h)
      · have h := o_pos h c_93
        refine g_bipush C (v := 20) dX11_cut_179 (by decide) 181 rfl ?_
        refine g_iload C dX11_cut_181 5 rfl 183 rfl ?_
        refine g_iadd C dX11_cut_183 184 rfl ?_
        obtain ⟨x6_95, ex6_95, h⟩ := o_lt h
        refine g_istore C (lv' := [(6, .int x6_95), (0, .ref (ad 0)), (1, .int x1), (3, .int x3), (4, .long x4), (7, .int x7)]) ex6_95 dX11_cut_184 (by decide) rfl 186 rfl ?_
        obtain ⟨x7_96, ex7_96, h⟩ := o_lt h
        refine g_iinc C (lv' := [(7, .int x7_96), (6, .int x6_95), (0, .ref (ad 0)), (1, .int x1), (3, .int x3), (4, .long x4)]) ex7_96 dX11_cut_186 5 rfl (by decide) (by decide) rfl 189 rfl ?_
        refine g_goto C 159 dX11_cut_189 (by decide) ?_
        exact g_sub C [2, 3, 4, 5, 1, 0] rfl (ih x1 x3 x4 x6_95 x7_96 σ h)
set_option maxHeartbeats 4000000 in
set_option maxRecDepth 100000 in
theorem kX11_cut_L7 (C : Ctx p l e (rmL 2) s m args below meth c D (tyz cI cJ cB cZ) (wM ad cI cJ cB cZ) A cX11_cut 8 2 RX11) (hr : meth.sig.returnType = none) {res : ST} {k31 : ST → Option (ST)} (hk31 : ∀ (σ : ST), k31 σ = some res → G p l e (rmL 2) s m args below meth c (MQ below (Qv D (tyz cI cJ cB cZ) (wM ad cI cJ cB cZ) A res) args s 0 0 A) D (wM ad cI cJ cB cZ) A 8 σ 31 [(0, .ref (ad 0))] []) : ∀ (n : Nat) (x1 : Int32) (σ : ST), fX11_cut_L7 k31 n x1 σ = some res → G p l e (rmL 2) s m args below meth c (MQ below (Qv D (tyz cI cJ cB cZ) (wM ad cI cJ cB cZ) A res) args s 0 0 A) D (wM ad cI cJ cB cZ) A 8 σ 7 [(0, .ref (ad 0)), (1, .int x1)] [] := by
  intro n
  induction n with
  | zero => intro x1 σ h; have h : none = some res := h; cases h
  | succ n ih =>
    intro x1 σ h
    rw [fX11_cut_L7] at h
    refine g_aload_n C dX11_cut_7 rfl 0 rfl 8 rfl ?_
    refine wgX11_191_0 C dX11_cut_8 11 rfl ?_
    refine g_sipush C (v := 400) dX11_cut_11 (by decide) 14 rfl ?_
    refine g_icmp_gt C 390 dX11_cut_14 (by decide) 17 rfl (fun c_3 => ?_) (fun c_3 => ?_)
    · have h := o_pos h c_3
      exact g_vret C hr dX11_cut_390 h
    · have h := o_neg h c_3
      refine g_aload_n C dX11_cut_17 rfl 0 rfl 18 rfl ?_
      refine g_iload_n C dX11_cut_18 rfl 1 rfl 19 rfl ?_
      obtain ⟨q_4, hq_4, h⟩ := o_bind h
      refine wcX11_194_M_0 C (kX11_at hq_4) (by decide) (Nat.le_of_ble_eq_true rfl) dX11_cut_19 22 rfl ?_
      obtain ⟨x2_5, ex2_5, h⟩ := o_lt h
      refine g_istore_n C (lv' := [(2, .int x2_5), (0, .ref (ad 0)), (1, .int x1)]) ex2_5 dX11_cut_22 rfl (by decide) rfl 23 rfl ?_
      refine g_iload_n C dX11_cut_23 rfl 2 rfl 24 rfl ?_
      refine g_aload_n C dX11_cut_24 rfl 1 rfl 25 rfl ?_
      refine wgX11_178_0 C dX11_cut_25 28 rfl ?_
      refine g_icmp_lt C 43 dX11_cut_28 (by decide) 31 rfl (fun c_6 => ?_) (fun c_6 => ?_)
      · have h := o_pos h c_6
        refine g_iload_n C dX11_cut_43 rfl 0 rfl 44 rfl ?_
        refine g_bipush C (v := 9) dX11_cut_44 (by decide) 46 rfl ?_
        refine g_icmp_eq C 67 dX11_cut_46 (by decide) 49 rfl (fun c_7 => ?_) (fun c_7 => ?_)
        · have h := o_pos h c_7
          obtain ⟨x1_8, ex1_8, h⟩ := o_lt h
          refine g_iinc C (lv' := [(1, .int x1_8), (2, .int x2_5), (0, .ref (ad 0))]) ex1_8 dX11_cut_67 2 rfl (by decide) (by decide) rfl 70 rfl ?_
          refine g_goto C 387 dX11_cut_70 (by decide) ?_
          refine g_goto C 7 dX11_cut_387 (by decide) ?_
          exact g_sub C [2, 0] rfl (ih x1_8 q_4.2 h)
        · have h := o_neg h c_7
          refine g_iload_n C dX11_cut_49 rfl 0 rfl 50 rfl ?_
          refine g_bipush C (v := 10) dX11_cut_50 (by decide) 52 rfl ?_
          refine g_icmp_eq C 67 dX11_cut_52 (by decide) 55 rfl (fun c_9 => ?_) (fun c_9 => ?_)
          · have h := o_pos h c_9
            obtain ⟨x1_10, ex1_10, h⟩ := o_lt h
            refine g_iinc C (lv' := [(1, .int x1_10), (2, .int x2_5), (0, .ref (ad 0))]) ex1_10 dX11_cut_67 2 rfl (by decide) (by decide) rfl 70 rfl ?_
            refine g_goto C 387 dX11_cut_70 (by decide) ?_
            refine g_goto C 7 dX11_cut_387 (by decide) ?_
            exact g_sub C [2, 0] rfl (ih x1_10 q_4.2 h)
          · have h := o_neg h c_9
            refine g_iload_n C dX11_cut_55 rfl 0 rfl 56 rfl ?_
            refine g_bipush C (v := 13) dX11_cut_56 (by decide) 58 rfl ?_
            refine g_icmp_eq C 67 dX11_cut_58 (by decide) 61 rfl (fun c_11 => ?_) (fun c_11 => ?_)
            · have h := o_pos h c_11
              obtain ⟨x1_12, ex1_12, h⟩ := o_lt h
              refine g_iinc C (lv' := [(1, .int x1_12), (2, .int x2_5), (0, .ref (ad 0))]) ex1_12 dX11_cut_67 2 rfl (by decide) (by decide) rfl 70 rfl ?_
              refine g_goto C 387 dX11_cut_70 (by decide) ?_
              refine g_goto C 7 dX11_cut_387 (by decide) ?_
              exact g_sub C [2, 0] rfl (ih x1_12 q_4.2 h)
            · have h := o_neg h c_11
              refine g_iload_n C dX11_cut_61 rfl 0 rfl 62 rfl ?_
              refine g_bipush C (v := 32) dX11_cut_62 (by decide) 64 rfl ?_
              refine g_icmp_ne C 73 dX11_cut_64 (by decide) 67 rfl (fun c_13 => ?_) (fun c_13 => ?_)
              · have h := o_neg h c_13
                refine g_iload_n C dX11_cut_73 rfl 0 rfl 74 rfl ?_
                obtain ⟨q_14, hq_14, h⟩ := o_bind h
                refine wcX11_201_M C (kX11_isLetter hq_14) (by decide) (Nat.le_of_ble_eq_true rfl) dX11_cut_74 77 rfl ?_
                refine g_if_eq C 209 dX11_cut_77 (by decide) 80 rfl (fun c_15 => ?_) (fun c_15 => ?_)
                · have h := o_pos h c_15
                  refine g_iload_n C dX11_cut_209 rfl 0 rfl 210 rfl ?_
                  obtain ⟨q_16, hq_16, h⟩ := o_bind h
                  refine wcX11_183_M C (kX11_isDigit hq_16) (by decide) (Nat.le_of_ble_eq_true rfl) dX11_cut_210 213 rfl ?_
                  refine g_if_eq C 288 dX11_cut_213 (by decide) 216 rfl (fun c_17 => ?_) (fun c_17 => ?_)
                  · have h := o_pos h c_17
                    refine g_iload_n C dX11_cut_288 rfl 0 rfl 289 rfl ?_
                    refine g_bipush C (v := 61) dX11_cut_289 (by decide) 291 rfl ?_
                    obtain ⟨j375, ej375, h⟩ := o_lt h
                    have hj375 : ∀ (x1_18 : Int32) (v_19 : Int32) (σ_20 : ST), j375 x1_18 v_19 σ_20 = some res → G p l e (rmL 2) s m args below meth c (MQ below (Qv D (tyz cI cJ cB cZ) (wM ad cI cJ cB cZ) A res) args s 0 0 A) D (wM ad cI cJ cB cZ) A 8 σ_20 375 [(0, .ref (ad 0)), (1, .int x1_18)] [.int v_19] := by
                      intro x1_18 v_19 σ_20 h
                      rw [ej375] at h
                      obtain ⟨x3_21, ex3_21, h⟩ := o_lt h
                      refine g_istore_n C (lv' := [(3, .int x3_21), (0, .ref (ad 0)), (1, .int x1_18)]) ex3_21 dX11_cut_375 rfl (by decide) rfl 376 rfl ?_
                      refine g_aload_n C dX11_cut_376 rfl 1 rfl 377 rfl ?_
                      refine g_iload_n C dX11_cut_377 rfl 0 rfl 378 rfl ?_
                      refine g_iload_n C dX11_cut_378 rfl 2 rfl 379 rfl ?_
                      refine g_iconst C (v := 0) dX11_cut_379 (by decide) 380 rfl ?_
                      refine g_lconst C (v := 0) dX11_cut_380 (by decide) 381 rfl ?_
                      obtain ⟨q_22, hq_22, h⟩ := o_bind h
                      refine wcX11_197_M_0 C (kX11_token hq_22) (by decide) (Nat.le_of_ble_eq_true rfl) dX11_cut_381 384 rfl ?_
                      obtain ⟨x1_23, ex1_23, h⟩ := o_lt h
                      refine g_iinc C (lv' := [(1, .int x1_23), (3, .int x3_21), (0, .ref (ad 0))]) ex1_23 dX11_cut_384 2 rfl (by decide) (by decide) rfl 387 rfl ?_
                      refine g_goto C 7 dX11_cut_387 (by decide) ?_
                      exact g_sub C [2, 0] rfl (ih x1_23 q_22 h)
                    refine g_icmp_ne C 298 dX11_cut_291 (by decide) 294 rfl (fun c_24 => ?_) (fun c_24 => ?_)
                    · have h := o_neg h c_24
                      refine g_iload_n C dX11_cut_298 rfl 0 rfl 299 rfl ?_
                      refine g_bipush C (v := 44) dX11_cut_299 (by decide) 301 rfl ?_
                      refine g_icmp_ne C 308 dX11_cut_301 (by decide) 304 rfl (fun c_25 => ?_) (fun c_25 => ?_)
                      · have h := o_neg h c_25
                        refine g_iload_n C dX11_cut_308 rfl 0 rfl 309 rfl ?_
                        refine g_bipush C (v := 59) dX11_cut_309 (by decide) 311 rfl ?_
                        refine g_icmp_ne C 319 dX11_cut_311 (by decide) 314 rfl (fun c_26 => ?_) (fun c_26 => ?_)
                        · have h := o_neg h c_26
                          refine g_iload_n C dX11_cut_319 rfl 0 rfl 320 rfl ?_
                          refine g_bipush C (v := 40) dX11_cut_320 (by decide) 322 rfl ?_
                          refine g_icmp_ne C 330 dX11_cut_322 (by decide) 325 rfl (fun c_27 => ?_) (fun c_27 => ?_)
                          · have h := o_neg h c_27
                            refine g_iload_n C dX11_cut_330 rfl 0 rfl 331 rfl ?_
                            refine g_bipush C (v := 41) dX11_cut_331 (by decide) 333 rfl ?_
                            refine g_icmp_ne C 341 dX11_cut_333 (by decide) 336 rfl (fun c_28 => ?_) (fun c_28 => ?_)
                            · have h := o_neg h c_28
                              refine g_iload_n C dX11_cut_341 rfl 0 rfl 342 rfl ?_
                              refine g_bipush C (v := 43) dX11_cut_342 (by decide) 344 rfl ?_
                              refine g_icmp_ne C 352 dX11_cut_344 (by decide) 347 rfl (fun c_29 => ?_) (fun c_29 => ?_)
                              · have h := o_neg h c_29
                                refine g_iload_n C dX11_cut_352 rfl 0 rfl 353 rfl ?_
                                refine g_bipush C (v := 45) dX11_cut_353 (by decide) 355 rfl ?_
                                refine g_icmp_ne C 363 dX11_cut_355 (by decide) 358 rfl (fun c_30 => ?_) (fun c_30 => ?_)
                                · have h := o_neg h c_30
                                  refine g_iload_n C dX11_cut_363 rfl 0 rfl 364 rfl ?_
                                  refine g_bipush C (v := 42) dX11_cut_364 (by decide) 366 rfl ?_
                                  refine g_icmp_ne C 374 dX11_cut_366 (by decide) 369 rfl (fun c_31 => ?_) (fun c_31 => ?_)
                                  · have h := o_neg h c_31
                                    refine g_iconst C (v := 3) dX11_cut_374 (by decide) 375 rfl ?_
                                    exact g_sub C [1, 2] rfl (hj375 x1 ((3 : Int32)) q_16.2 h)
                                  · have h := o_pos h c_31
                                    refine g_bipush C (v := 11) dX11_cut_369 (by decide) 371 rfl ?_
                                    refine g_goto C 375 dX11_cut_371 (by decide) ?_
                                    exact g_sub C [1, 2] rfl (hj375 x1 ((11 : Int32)) q_16.2 h)
                                · have h := o_pos h c_30
                                  refine g_bipush C (v := 10) dX11_cut_358 (by decide) 360 rfl ?_
                                  refine g_goto C 375 dX11_cut_360 (by decide) ?_
                                  exact g_sub C [1, 2] rfl (hj375 x1 ((10 : Int32)) q_16.2 h)
                              · have h := o_pos h c_29
                                refine g_bipush C (v := 9) dX11_cut_347 (by decide) 349 rfl ?_
                                refine g_goto C 375 dX11_cut_349 (by decide) ?_
                                exact g_sub C [1, 2] rfl (hj375 x1 ((9 : Int32)) q_16.2 h)
                            · have h := o_pos h c_28
                              refine g_bipush C (v := 8) dX11_cut_336 (by decide) 338 rfl ?_
                              refine g_goto C 375 dX11_cut_338 (by decide) ?_
                              exact g_sub C [1, 2] rfl (hj375 x1 ((8 : Int32)) q_16.2 h)
                          · have h := o_pos h c_27
                            refine g_bipush C (v := 7) dX11_cut_325 (by decide) 327 rfl ?_
                            refine g_goto C 375 dX11_cut_327 (by decide) ?_
                            exact g_sub C [1, 2] rfl (hj375 x1 ((7 : Int32)) q_16.2 h)
                        · have h := o_pos h c_26
                          refine g_bipush C (v := 6) dX11_cut_314 (by decide) 316 rfl ?_
                          refine g_goto C 375 dX11_cut_316 (by decide) ?_
                          exact g_sub C [1, 2] rfl (hj375 x1 ((6 : Int32)) q_16.2 h)
                      · have h := o_pos h c_25
                        refine g_iconst C (v := 5) dX11_cut_304 (by decide) 305 rfl ?_
                        refine g_goto C 375 dX11_cut_305 (by decide) ?_
                        exact g_sub C [1, 2] rfl (hj375 x1 ((5 : Int32)) q_16.2 h)
                    · have h := o_pos h c_24
                      refine g_iconst C (v := 4) dX11_cut_294 (by decide) 295 rfl ?_
                      refine g_goto C 375 dX11_cut_295 (by decide) ?_
                      exact g_sub C [1, 2] rfl (hj375 x1 ((4 : Int32)) q_16.2 h)
                  · have h := o_neg h c_17
                    refine g_iconst C (v := 0) dX11_cut_216 (by decide) 217 rfl ?_
                    obtain ⟨x3_32, ex3_32, h⟩ := o_lt h
                    refine g_istore_n C (lv' := [(3, .int x3_32), (2, .int x2_5), (0, .ref (ad 0)), (1, .int x1)]) ex3_32 dX11_cut_217 rfl (by decide) rfl 218 rfl ?_
                    refine g_iconst C (v := 0) dX11_cut_218 (by decide) 219 rfl ?_
                    obtain ⟨x4_33, ex4_33, h⟩ := o_lt h
                    refine g_istore C (lv' := [(4, .int x4_33), (3, .int x3_32), (2, .int x2_5), (0, .ref (ad 0)), (1, .int x1)]) ex4_33 dX11_cut_219 (by decide) rfl 221 rfl ?_
                    exact g_sub C [3, 4, 1, 0] rfl (kX11_cut_L221 C hr (fun x1_42 x3_43 x4_44 σ_45 h => by
                        refine g_aload_n C dX11_cut_263 rfl 0 rfl 264 rfl ?_
                        refine g_iload_n C dX11_cut_264 rfl 2 rfl 265 rfl ?_
                        refine g_iconst C (v := 4) dX11_cut_265 (by decide) 266 rfl ?_
                        obtain ⟨j274, ej274, h⟩ := o_lt h
                        have hj274 : ∀ (x1_46 : Int32) (x3_47 : Int32) (x4_48 : Int32) (v_49 : Int32) (σ_50 : ST), j274 x1_46 x3_47 x4_48 v_49 σ_50 = some res → G p l e (rmL 2) s m args below meth c (MQ below (Qv D (tyz cI cJ cB cZ) (wM ad cI cJ cB cZ) A res) args s 0 0 A) D (wM ad cI cJ cB cZ) A 8 σ_50 274 [(0, .ref (ad 0)), (1, .int x1_46), (3, .int x3_47), (4, .int x4_48)] [.int v_49, .ref (ad 0)] := by
                          intro x1_46 x3_47 x4_48 v_49 σ_50 h
                          rw [ej274] at h
                          refine g_iload_n C dX11_cut_274 rfl 1 rfl 275 rfl ?_
                          refine g_iload C dX11_cut_275 3 rfl 277 rfl ?_
                          refine g_lconst C (v := 0) dX11_cut_277 (by decide) 278 rfl ?_
                          obtain ⟨q_51, hq_51, h⟩ := o_bind h
                          refine wcX11_197_M_0 C (kX11_token hq_51) (by decide) (Nat.le_of_ble_eq_true rfl) dX11_cut_278 281 rfl ?_
                          refine g_iload_n C dX11_cut_281 rfl 1 rfl 282 rfl ?_
                          refine g_iload_n C dX11_cut_282 rfl 2 rfl 283 rfl ?_
                          refine g_iadd C dX11_cut_283 284 rfl ?_
                          obtain ⟨x1_52, ex1_52, h⟩ := o_lt h
                          refine g_istore_n C (lv' := [(1, .int x1_52), (0, .ref (ad 0)), (3, .int x3_47), (4, .int x4_48)]) ex1_52 dX11_cut_284 rfl (by decide) rfl 285 rfl ?_
                          refine g_goto C 387 dX11_cut_285 (by decide) ?_
                          refine g_goto C 7 dX11_cut_387 (by decide) ?_
                          exact g_sub C [1, 0] rfl (ih x1_52 q_51 h)
                        refine g_icmp_le C 273 dX11_cut_266 (by decide) 269 rfl (fun c_53 => ?_) (fun c_53 => ?_)
                        · have h := o_pos h c_53
                          refine g_iconst C (v := 2) dX11_cut_273 (by decide) 274 rfl ?_
                          exact g_sub C [0, 1, 2, 3] rfl (hj274 x1_42 x3_43 x4_44 ((2 : Int32)) σ_45 h)
                        · have h := o_neg h c_53
                          refine g_iconst C (v := 3) dX11_cut_269 (by decide) 270 rfl ?_
                          refine g_goto C 274 dX11_cut_270 (by decide) ?_
                          exact g_sub C [0, 1, 2, 3] rfl (hj274 x1_42 x3_43 x4_44 ((3 : Int32)) σ_45 h)) n x1 x3_32 x4_33 q_16.2 h)
                · have h := o_neg h c_15
                  refine g_iconst C (v := 0) dX11_cut_80 (by decide) 81 rfl ?_
                  obtain ⟨x3_54, ex3_54, h⟩ := o_lt h
                  refine g_istore_n C (lv' := [(3, .int x3_54), (2, .int x2_5), (0, .ref (ad 0)), (1, .int x1)]) ex3_54 dX11_cut_81 rfl (by decide) rfl 82 rfl ?_
                  refine g_lconst C (v := 0) dX11_cut_82 (by decide) 83 rfl ?_
                  obtain ⟨x4_55, ex4_55, h⟩ := o_lt h
                  refine g_lstore C (lv' := [(4, .long x4_55), (3, .int x3_54), (2, .int x2_5), (0, .ref (ad 0)), (1, .int x1)]) ex4_55 dX11_cut_83 (by decide) rfl 85 rfl ?_
                  exact g_sub C [3, 4, 1, 0] rfl (kX11_cut_L85 C hr (fun x1_72 x3_73 x4_74 σ_75 h => by
                      refine g_iload_n C dX11_cut_137 rfl 2 rfl 138 rfl ?_
                      refine g_bipush C (v := 8) dX11_cut_138 (by decide) 140 rfl ?_
                      obtain ⟨j148, ej148, h⟩ := o_lt h
                      have hj148 : ∀ (x1_76 : Int32) (x3_77 : Int32) (x4_78 : Int64) (v_79 : Int32) (σ_80 : ST), j148 x1_76 x3_77 x4_78 v_79 σ_80 = some res → G p l e (rmL 2) s m args below meth c (MQ below (Qv D (tyz cI cJ cB cZ) (wM ad cI cJ cB cZ) A res) args s 0 0 A) D (wM ad cI cJ cB cZ) A 8 σ_80 148 [(0, .ref (ad 0)), (1, .int x1_76), (3, .int x3_77), (4, .long x4_78)] [.int v_79] := by
                        intro x1_76 x3_77 x4_78 v_79 σ_80 h
                        rw [ej148] at h
                        obtain ⟨x6_81, ex6_81, h⟩ := o_lt h
                        refine g_istore C (lv' := [(6, .int x6_81), (0, .ref (ad 0)), (1, .int x1_76), (3, .int x3_77), (4, .long x4_78)]) ex6_81 dX11_cut_148 (by decide) rfl 150 rfl ?_
                        refine g_iload_n C dX11_cut_150 rfl 3 rfl 151 rfl ?_
                        refine g_bipush C (v := 6) dX11_cut_151 (by decide) 153 rfl ?_
                        obtain ⟨j192, ej192, h⟩ := o_lt h
                        have hj192 : ∀ (x1_82 : Int32) (x3_83 : Int32) (x4_84 : Int64) (x6_85 : Int32) (σ_86 : ST), j192 x1_82 x3_83 x4_84 x6_85 σ_86 = some res → G p l e (rmL 2) s m args below meth c (MQ below (Qv D (tyz cI cJ cB cZ) (wM ad cI cJ cB cZ) A res) args s 0 0 A) D (wM ad cI cJ cB cZ) A 8 σ_86 192 [(0, .ref (ad 0)), (1, .int x1_82), (3, .int x3_83), (4, .long x4_84), (6, .int x6_85)] [] := by
                          intro x1_82 x3_83 x4_84 x6_85 σ_86 h
                          rw [ej192] at h
                          refine g_aload_n C dX11_cut_192 rfl 0 rfl 193 rfl ?_
                          refine g_iload C dX11_cut_193 4 rfl 195 rfl ?_
                          refine g_iload_n C dX11_cut_195 rfl 1 rfl 196 rfl ?_
                          refine g_iconst C (v := 0) dX11_cut_196 (by decide) 197 rfl ?_
                          refine g_lload C dX11_cut_197 3 rfl 199 rfl ?_
                          obtain ⟨q_87, hq_87, h⟩ := o_bind h
                          refine wcX11_197_M_0 C (kX11_token hq_87) (by decide) (Nat.le_of_ble_eq_true rfl) dX11_cut_199 202 rfl ?_
                          refine g_iload_n C dX11_cut_202 rfl 1 rfl 203 rfl ?_
                          refine g_iload_n C dX11_cut_203 rfl 2 rfl 204 rfl ?_
                          refine g_iadd C dX11_cut_204 205 rfl ?_
                          obtain ⟨x1_88, ex1_88, h⟩ := o_lt h
                          refine g_istore_n C (lv' := [(1, .int x1_88), (0, .ref (ad 0)), (3, .int x3_83), (4, .long x4_84), (6, .int x6_85)]) ex1_88 dX11_cut_205 rfl (by decide) rfl 206 rfl ?_
                          refine g_goto C 387 dX11_cut_206 (by decide) ?_
                          refine g_goto C 7 dX11_cut_387 (by decide) ?_
                          exact g_sub C [1, 0] rfl (ih x1_88 q_87 h)
                        refine g_icmp_gt C 192 dX11_cut_153 (by decide) 156 rfl (fun c_89 => ?_) (fun c_89 => ?_)
                        · have h := o_pos h c_89
                          exact g_sub C [1, 2, 3, 4, 0] rfl (hj192 x1_76 x3_77 x4_78 x6_81 σ_80 h)
                        · have h := o_neg h c_89
                          refine g_iconst C (v := 0) dX11_cut_156 (by decide) 157 rfl ?_
                          obtain ⟨x7_90, ex7_90, h⟩ := o_lt h
                          refine g_istore C (lv' := [(7, .int x7_90), (6, .int x6_81), (0, .ref (ad 0)), (1, .int x1_76), (3, .int x3_77), (4, .long x4_78)]) ex7_90 dX11_cut_157 (by decide) rfl 159 rfl ?_
                          exact g_sub C [2, 3, 4, 5, 1, 0] rfl (kX11_cut_L159 C hr (fun x1_97 x3_98 x4_99 x6_100 σ_101 h => by
                              exact g_sub C [0, 1, 2, 3, 4] rfl (hj192 x1_97 x3_98 x4_99 x6_100 σ_101 h)) n x1_76 x3_77 x4_78 x6_81 x7_90 σ_80 h)
                      refine g_icmp_le C 147 dX11_cut_140 (by decide) 143 rfl (fun c_102 => ?_) (fun c_102 => ?_)
                      · have h := o_pos h c_102
                        refine g_iconst C (v := 1) dX11_cut_147 (by decide) 148 rfl ?_
                        exact g_sub C [0, 1, 2, 3] rfl (hj148 x1_72 x3_73 x4_74 ((1 : Int32)) σ_75 h)
                      · have h := o_neg h c_102
                        refine g_iconst C (v := 3) dX11_cut_143 (by decide) 144 rfl ?_
                        refine g_goto C 148 dX11_cut_144 (by decide) ?_
                        exact g_sub C [0, 1, 2, 3] rfl (hj148 x1_72 x3_73 x4_74 ((3 : Int32)) σ_75 h)) n x1 x3_54 x4_55 q_14.2 h)
              · have h := o_pos h c_13
                obtain ⟨x1_103, ex1_103, h⟩ := o_lt h
                refine g_iinc C (lv' := [(1, .int x1_103), (2, .int x2_5), (0, .ref (ad 0))]) ex1_103 dX11_cut_67 2 rfl (by decide) (by decide) rfl 70 rfl ?_
                refine g_goto C 387 dX11_cut_70 (by decide) ?_
                refine g_goto C 7 dX11_cut_387 (by decide) ?_
                exact g_sub C [2, 0] rfl (ih x1_103 q_4.2 h)
      · have h := o_neg h c_6
        exact g_sub C [1] rfl (hk31 q_4.2 h)
set_option maxHeartbeats 4000000 in
set_option maxRecDepth 100000 in
theorem kX11_cut {l : Launch} {D : va_G} {ad : Nat → Nat} {cI cJ cB cZ : ClassId}  {n : Nat}  {σ : ST} {res : ST} (h : fX11_cut n σ = some res) : CMv l D (tyz cI cJ cB cZ) (wM ad cI cJ cB cZ) 2 yX11_cut cX11_cut 8 none [.ref (ad 0)] σ res := by
  refine cmv_body (own := RX11) (lv := [(0, .ref (ad 0))]) (by decide) rfl (wM_addr _ _ _ _ _) (Nat.le_of_ble_eq_true rfl) rfl (fun p e s m args below meth c A C hr => ?_)
  unfold fX11_cut at h
  refine g_aload_n C dX11_cut_0 rfl 0 rfl 1 rfl ?_
  refine g_iconst C (v := 0) dX11_cut_1 (by decide) 2 rfl ?_
  obtain ⟨σ_1, eσ_1, h⟩ := o_lt h
  refine wpX11_191_0 C eσ_1 dX11_cut_2 5 rfl ?_
  refine g_iconst C (v := 0) dX11_cut_5 (by decide) 6 rfl ?_
  obtain ⟨x1_2, ex1_2, h⟩ := o_lt h
  refine g_istore_n C (lv' := [(1, .int x1_2), (0, .ref (ad 0))]) ex1_2 dX11_cut_6 rfl (by decide) rfl 7 rfl ?_
  exact g_sub C [1, 0] rfl (kX11_cut_L7 C hr (fun σ_104 h => by
      refine g_aload_n C dX11_cut_31 rfl 0 rfl 32 rfl ?_
      refine g_iconst C (v := 0) dX11_cut_32 (by decide) 33 rfl ?_
      refine g_aload_n C dX11_cut_33 rfl 0 rfl 34 rfl ?_
      refine wgX11_178_0 C dX11_cut_34 37 rfl ?_
      refine g_iconst C (v := 0) dX11_cut_37 (by decide) 38 rfl ?_
      refine g_lconst C (v := 0) dX11_cut_38 (by decide) 39 rfl ?_
      obtain ⟨q_105, hq_105, h⟩ := o_bind h
      refine wcX11_197_M_0 C (kX11_token hq_105) (by decide) (Nat.le_of_ble_eq_true rfl) dX11_cut_39 42 rfl ?_
      exact g_vret C hr dX11_cut_42 h) n x1_2 σ_1 h)
end WK
