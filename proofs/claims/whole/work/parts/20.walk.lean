/-! X11_tell private void tell(); -/
def fX11_tell_L199 (k232 : Int32 → Int32 → ST → Option (ST)) : Nat → Int32 → Int32 → Int32 → ST → Option (ST)
  | 0, _, _, _, _ => none
  | n + 1, x1, x2, x3, σ => (if x1 ≤ x3 then (k232 x1 x2 σ) else (if ix x3 14 then (if ix x2 403 then (if (lg_cmp (ldB σ 9 x3) (ldB σ 6 x2)) = 0 then (Option.bind (fX11_wrong ((3 : Int32)) x2 σ) (fun q_32 => (lt (x3 + 1) (fun x3_33 => (fX11_tell_L199 k232 n x1 x2 x3_33 q_32))))) else (lt (x3 + 1) (fun x3_31 => (fX11_tell_L199 k232 n x1 x2 x3_31 σ)))) else none) else none))
def fX11_tell_L324 (k378 : ST → Option (ST)) : Nat → Int32 → Int32 → ST → Option (ST)
  | 0, _, _, _ => none
  | n + 1, x1, x3, σ => (if ix (gI σ 12) 2 then (if (ldA σ 8 (gI σ 12)) ≤ x3 then (k378 σ) else (if (((gI σ 15) >>> (x3 &&& 31)) &&& ((1 : Int32))) = ((1 : Int32)) then (if ix x1 14 then (if ix ((((7 : Int32)) * (gI σ 12)) + x3) 14 then (if ix x1 14 then (lt (stA σ 18 x1 ((ldA σ 18 x1) ||| (ldA σ 18 ((((7 : Int32)) * (gI σ 12)) + x3)))) (fun σ_63 => (lt (x3 + 1) (fun x3_64 => (fX11_tell_L324 k378 n x1 x3_64 σ_63))))) else none) else none) else none) else (lt (x3 + 1) (fun x3_59 => (fX11_tell_L324 k378 n x1 x3_59 σ))))) else none)
def fX11_tell (n : Nat)  (σ : ST) : Option (ST) :=
  (Option.bind (fX11_is ((20 : Int32)) σ) (fun q_1 => (lt (fun (σ_2 : ST) => (if (gI σ_2 6) ≤ 0 then (if ix (gI σ_2 12) 2 then (lt ((((7 : Int32)) * (gI σ_2 12)) + (ldA σ_2 8 (gI σ_2 12))) (fun x1_5 => (Option.bind (fX11_is ((22 : Int32)) σ_2) (fun q_6 => (if ix x1_5 14 then (lt (stA q_6.2 10 x1_5 (nz q_6.1)) (fun σ_8 => (Option.bind (fX11_next σ_8) (fun q_9 => (lt (gI q_9 4) (fun x2_10 => (Option.bind (fX11_must ((1 : Int32)) q_9) (fun q_11 => (Option.bind (fX11_must ((21 : Int32)) q_11) (fun q_12 => (Option.bind (fX11_inRange ((1 : Int32)) ((20 : Int32)) q_12) (fun q_13 => (if ix x1_5 14 then (lt (stA q_13.2 11 x1_5 q_13.1) (fun σ_15 => (if ix x1_5 14 then (lt (stA σ_15 12 x1_5 ((0 : Int32))) (fun σ_17 => (if ix x1_5 14 then (lt (stA σ_17 13 x1_5 ((0 : Int32))) (fun σ_19 => (if ix x1_5 14 then (lt (fun (x1_21 : Int32) (x2_22 : Int32) (σ_23 : ST) => (Option.bind (fX11_must ((4 : Int32)) σ_23) (fun q_24 => (if (gI q_24 6) ≤ 0 then (lt (((7 : Int32)) * (gI q_24 12)) (fun x3_26 => (fX11_tell_L199 (fun (x1_34 : Int32) (x2_35 : Int32) (σ_36 : ST) => (if ix x1_34 14 then (lt (stA σ_36 14 x1_34 (gI σ_36 13)) (fun σ_38 => (lt (sI σ_38 14 ((0 : Int32))) (fun σ_39 => (lt (sI σ_39 15 ((0 : Int32))) (fun σ_40 => (Option.bind (fX11_expression n σ_40) (fun q_41 => (if ix x1_34 14 then (lt (stA q_41 15 x1_34 (gI q_41 13)) (fun σ_43 => (Option.bind (fX11_must ((6 : Int32)) σ_43) (fun q_44 => (if (gI q_44 6) ≤ 0 then (if ix x2_35 403 then (if ix x1_34 14 then (lt (stB q_44 9 x1_34 (ldB q_44 6 x2_35)) (fun σ_48 => (if ix x1_34 14 then (lt (stA σ_48 16 x1_34 (gI σ_48 14)) (fun σ_50 => (if ix x1_34 14 then (lt (stA σ_50 17 x1_34 (gI σ_50 15)) (fun σ_52 => (if ix x1_34 14 then (lt (stA σ_52 18 x1_34 (gI σ_52 14)) (fun σ_54 => (lt ((0 : Int32)) (fun x3_55 => (fX11_tell_L324 (fun (σ_65 : ST) => (if ix (gI σ_65 12) 2 then (if ix (gI σ_65 12) 2 then (lt (stA σ_65 8 (gI σ_65 12) ((ldA σ_65 8 (gI σ_65 12)) + ((1 : Int32)))) (fun σ_68 => (some σ_68))) else none) else none)) n x1_34 x3_55 σ_54))))) else none))) else none))) else none))) else none) else none) else (some q_44)))))) else none))))))))) else none)) n x1_21 x2_22 x3_26 q_24))) else (some q_24))))) (fun j178 => (if (ldA σ_19 10 x1_5) = 0 then (j178 x1_5 x2_10 σ_19) else (Option.bind (fX11_must ((23 : Int32)) σ_19) (fun q_70 => (Option.bind (fX11_inRange ((0 : Int32)) ((399 : Int32)) q_70) (fun q_71 => (if ix x1_5 14 then (lt (stA q_71.2 12 x1_5 q_71.1) (fun σ_73 => (Option.bind (fX11_must ((24 : Int32)) σ_73) (fun q_74 => (Option.bind (fX11_inRange ((0 : Int32)) ((100 : Int32)) q_74) (fun q_75 => (if ix x1_5 14 then (lt (stA q_75.2 13 x1_5 q_75.1) (fun σ_77 => (j178 x1_5 x2_10 σ_77))) else none))))))) else none)))))))) else none))) else none))) else none))) else none))))))))))))) else none))))) else none) else (some σ_2))) (fun j45 => (lt (fun (σ_78 : ST) => (if ix (gI σ_78 12) 2 then (if (ldA σ_78 8 (gI σ_78 12)) = ((7 : Int32)) then (Option.bind (fX11_fail ((2 : Int32)) σ_78) (fun q_81 => (j45 q_81))) else (j45 σ_78)) else none)) (fun j26 => (if q_1.1 = 0 then (Option.bind (fX11_is ((22 : Int32)) q_1.2) (fun q_83 => (if q_83.1 = 0 then (Option.bind (fX11_fail ((1 : Int32)) q_83.2) (fun q_85 => (j45 q_85))) else (j26 q_83.2)))) else (j26 q_1.2))))))))
section WK
variable {p : Program} {l : Launch} {e : Env} {R : Room} {s : State} {m : MethodId} {args : Array Value} {below : List Frame} {meth : Method} {c : Code} {Q : State → Prop}
variable {D : va_G} {ad : Nat → Nat} {cI cJ cB cZ : ClassId} {A : Nat → Prop} {cc : ByteArray} {nL lev : Nat}
variable {σ : ST} {pc : Nat} {lv : List (Nat × Value)} {st : List Value}
set_option maxHeartbeats 4000000 in
set_option maxRecDepth 100000 in
theorem kX11_tell_L199 (C : Ctx p l e (rmL 6) s m args below meth c D (tyz cI cJ cB cZ) (wM ad cI cJ cB cZ) A cX11_tell 4 6 RX11) (hr : meth.sig.returnType = none) {res : ST} {k232 : Int32 → Int32 → ST → Option (ST)} (hk232 : ∀ (x1 : Int32) (x2 : Int32) (σ : ST), k232 x1 x2 σ = some res → G p l e (rmL 6) s m args below meth c (MQ below (Qv D (tyz cI cJ cB cZ) (wM ad cI cJ cB cZ) A res) args s 0 0 A) D (wM ad cI cJ cB cZ) A 4 σ 232 [(0, .ref (ad 0)), (1, .int x1), (2, .int x2)] []) : ∀ (n : Nat) (x1 : Int32) (x2 : Int32) (x3 : Int32) (σ : ST), fX11_tell_L199 k232 n x1 x2 x3 σ = some res → G p l e (rmL 6) s m args below meth c (MQ below (Qv D (tyz cI cJ cB cZ) (wM ad cI cJ cB cZ) A res) args s 0 0 A) D (wM ad cI cJ cB cZ) A 4 σ 199 [(0, .ref (ad 0)), (1, .int x1), (2, .int x2), (3, .int x3)] [] := by
  intro n
  induction n with
  | zero => intro x1 x2 x3 σ h; have h : none = some res := h; cases h
  | succ n ih =>
    intro x1 x2 x3 σ h
    rw [fX11_tell_L199] at h
    refine g_iload_n C dX11_tell_199 rfl 3 rfl 200 rfl ?_
    refine g_iload_n C dX11_tell_200 rfl 1 rfl 201 rfl ?_
    refine g_icmp_ge C 232 dX11_tell_201 (by decide) 204 rfl (fun c_27 => ?_) (fun c_27 => ?_)
    · have h := o_pos h c_27
      exact g_sub C [0, 1, 2] rfl (hk232 x1 x2 σ h)
    · have h := o_neg h c_27
      refine g_aload_n C dX11_tell_204 rfl 0 rfl 205 rfl ?_
      refine wgX11_43_0 C dX11_tell_205 208 rfl ?_
      refine g_iload_n C dX11_tell_208 rfl 3 rfl 209 rfl ?_
      obtain ⟨c_28, h⟩ := o_chk h
      refine wlM_9 C c_28 dX11_tell_209 210 rfl ?_
      refine g_aload_n C dX11_tell_210 rfl 0 rfl 211 rfl ?_
      refine wgX11_30_0 C dX11_tell_211 214 rfl ?_
      refine g_iload_n C dX11_tell_214 rfl 2 rfl 215 rfl ?_
      obtain ⟨c_29, h⟩ := o_chk h
      refine wlM_6 C c_29 dX11_tell_215 216 rfl ?_
      refine g_lcmp C dX11_tell_216 217 rfl ?_
      refine g_if_ne C 226 dX11_tell_217 (by decide) 220 rfl (fun c_30 => ?_) (fun c_30 => ?_)
      · have h := o_neg h c_30
        obtain ⟨x3_31, ex3_31, h⟩ := o_lt h
        refine g_iinc C (lv' := [(3, .int x3_31), (0, .ref (ad 0)), (1, .int x1), (2, .int x2)]) ex3_31 dX11_tell_226 3 rfl (by decide) (by decide) rfl 229 rfl ?_
        refine g_goto C 199 dX11_tell_229 (by decide) ?_
        exact g_sub C [1, 2, 3, 0] rfl (ih x1 x2 x3_31 σ h)
      · have h := o_pos h c_30
        refine g_aload_n C dX11_tell_220 rfl 0 rfl 221 rfl ?_
        refine g_iconst C (v := 3) dX11_tell_221 (by decide) 222 rfl ?_
        refine g_iload_n C dX11_tell_222 rfl 2 rfl 223 rfl ?_
        obtain ⟨q_32, hq_32, h⟩ := o_bind h
        refine wcX11_249_M_0 C (kX11_wrong hq_32) (by decide) (Nat.le_of_ble_eq_true rfl) dX11_tell_223 226 rfl ?_
        obtain ⟨x3_33, ex3_33, h⟩ := o_lt h
        refine g_iinc C (lv' := [(3, .int x3_33), (0, .ref (ad 0)), (1, .int x1), (2, .int x2)]) ex3_33 dX11_tell_226 3 rfl (by decide) (by decide) rfl 229 rfl ?_
        refine g_goto C 199 dX11_tell_229 (by decide) ?_
        exact g_sub C [1, 2, 3, 0] rfl (ih x1 x2 x3_33 q_32 h)
set_option maxHeartbeats 4000000 in
set_option maxRecDepth 100000 in
theorem kX11_tell_L324 (C : Ctx p l e (rmL 6) s m args below meth c D (tyz cI cJ cB cZ) (wM ad cI cJ cB cZ) A cX11_tell 4 6 RX11) (hr : meth.sig.returnType = none) {res : ST} {k378 : ST → Option (ST)} (hk378 : ∀ (σ : ST), k378 σ = some res → G p l e (rmL 6) s m args below meth c (MQ below (Qv D (tyz cI cJ cB cZ) (wM ad cI cJ cB cZ) A res) args s 0 0 A) D (wM ad cI cJ cB cZ) A 4 σ 378 [(0, .ref (ad 0))] []) : ∀ (n : Nat) (x1 : Int32) (x3 : Int32) (σ : ST), fX11_tell_L324 k378 n x1 x3 σ = some res → G p l e (rmL 6) s m args below meth c (MQ below (Qv D (tyz cI cJ cB cZ) (wM ad cI cJ cB cZ) A res) args s 0 0 A) D (wM ad cI cJ cB cZ) A 4 σ 324 [(0, .ref (ad 0)), (1, .int x1), (3, .int x3)] [] := by
  intro n
  induction n with
  | zero => intro x1 x3 σ h; have h : none = some res := h; cases h
  | succ n ih =>
    intro x1 x3 σ h
    rw [fX11_tell_L324] at h
    refine g_iload_n C dX11_tell_324 rfl 2 rfl 325 rfl ?_
    refine g_aload_n C dX11_tell_325 rfl 0 rfl 326 rfl ?_
    refine wgX11_40_0 C dX11_tell_326 329 rfl ?_
    refine g_aload_n C dX11_tell_329 rfl 0 rfl 330 rfl ?_
    refine wgX11_237_0 C dX11_tell_330 333 rfl ?_
    obtain ⟨c_56, h⟩ := o_chk h
    refine wlM_8 C c_56 dX11_tell_333 334 rfl ?_
    refine g_icmp_ge C 378 dX11_tell_334 (by decide) 337 rfl (fun c_57 => ?_) (fun c_57 => ?_)
    · have h := o_pos h c_57
      exact g_sub C [0] rfl (hk378 σ h)
    · have h := o_neg h c_57
      refine g_aload_n C dX11_tell_337 rfl 0 rfl 338 rfl ?_
      refine wgX11_260_0 C dX11_tell_338 341 rfl ?_
      refine g_iload_n C dX11_tell_341 rfl 2 rfl 342 rfl ?_
      refine g_ishr C dX11_tell_342 343 rfl ?_
      refine g_iconst C (v := 1) dX11_tell_343 (by decide) 344 rfl ?_
      refine g_iand C dX11_tell_344 345 rfl ?_
      refine g_iconst C (v := 1) dX11_tell_345 (by decide) 346 rfl ?_
      refine g_icmp_ne C 372 dX11_tell_346 (by decide) 349 rfl (fun c_58 => ?_) (fun c_58 => ?_)
      · have h := o_neg h c_58
        obtain ⟨x3_59, ex3_59, h⟩ := o_lt h
        refine g_iinc C (lv' := [(3, .int x3_59), (0, .ref (ad 0)), (1, .int x1)]) ex3_59 dX11_tell_372 2 rfl (by decide) (by decide) rfl 375 rfl ?_
        refine g_goto C 324 dX11_tell_375 (by decide) ?_
        exact g_sub C [1, 2, 0] rfl (ih x1 x3_59 σ h)
      · have h := o_pos h c_58
        refine g_aload_n C dX11_tell_349 rfl 0 rfl 350 rfl ?_
        refine wgX11_71_0 C dX11_tell_350 353 rfl ?_
        refine g_iload_n C dX11_tell_353 rfl 1 rfl 354 rfl ?_
        refine g_dup2 C dX11_tell_354 rfl rfl 355 rfl ?_
        obtain ⟨c_60, h⟩ := o_chk h
        refine wlM_18 C c_60 dX11_tell_355 356 rfl ?_
        refine g_aload_n C dX11_tell_356 rfl 0 rfl 357 rfl ?_
        refine wgX11_71_0 C dX11_tell_357 360 rfl ?_
        refine g_bipush C (v := 7) dX11_tell_360 (by decide) 362 rfl ?_
        refine g_aload_n C dX11_tell_362 rfl 0 rfl 363 rfl ?_
        refine wgX11_237_0 C dX11_tell_363 366 rfl ?_
        refine g_imul C dX11_tell_366 367 rfl ?_
        refine g_iload_n C dX11_tell_367 rfl 2 rfl 368 rfl ?_
        refine g_iadd C dX11_tell_368 369 rfl ?_
        obtain ⟨c_61, h⟩ := o_chk h
        refine wlM_18 C c_61 dX11_tell_369 370 rfl ?_
        refine g_ior C dX11_tell_370 371 rfl ?_
        obtain ⟨c_62, h⟩ := o_chk h
        obtain ⟨σ_63, eσ_63, h⟩ := o_lt h
        refine wtM_18 C eσ_63 c_62 dX11_tell_371 372 rfl ?_
        obtain ⟨x3_64, ex3_64, h⟩ := o_lt h
        refine g_iinc C (lv' := [(3, .int x3_64), (0, .ref (ad 0)), (1, .int x1)]) ex3_64 dX11_tell_372 2 rfl (by decide) (by decide) rfl 375 rfl ?_
        refine g_goto C 324 dX11_tell_375 (by decide) ?_
        exact g_sub C [1, 2, 0] rfl (ih x1 x3_64 σ_63 h)
set_option maxHeartbeats 4000000 in
set_option maxRecDepth 100000 in
theorem kX11_tell {l : Launch} {D : va_G} {ad : Nat → Nat} {cI cJ cB cZ : ClassId}  {n : Nat}  {σ : ST} {res : ST} (h : fX11_tell n σ = some res) : CMv l D (tyz cI cJ cB cZ) (wM ad cI cJ cB cZ) 6 yX11_tell cX11_tell 4 none [.ref (ad 0)] σ res := by
  refine cmv_body (own := RX11) (lv := [(0, .ref (ad 0))]) (by decide) rfl (wM_addr _ _ _ _ _) (Nat.le_of_ble_eq_true rfl) rfl (fun p e s m args below meth c A C hr => ?_)
  unfold fX11_tell at h
  refine g_aload_n C dX11_tell_0 rfl 0 rfl 1 rfl ?_
  refine g_bipush C (v := 20) dX11_tell_1 (by decide) 3 rfl ?_
  obtain ⟨q_1, hq_1, h⟩ := o_bind h
  refine wcX11_222_M_0 C (kX11_is hq_1) (by decide) (Nat.le_of_ble_eq_true rfl) dX11_tell_3 6 rfl ?_
  obtain ⟨j45, ej45, h⟩ := o_lt h
  have hj45 : ∀ (σ_2 : ST), j45 σ_2 = some res → G p l e (rmL 6) s m args below meth c (MQ below (Qv D (tyz cI cJ cB cZ) (wM ad cI cJ cB cZ) A res) args s 0 0 A) D (wM ad cI cJ cB cZ) A 4 σ_2 45 [(0, .ref (ad 0))] [] := by
    intro σ_2 h
    rw [ej45] at h
    refine g_aload_n C dX11_tell_45 rfl 0 rfl 46 rfl ?_
    refine wgX11_204_0 C dX11_tell_46 49 rfl ?_
    refine g_if_le C 53 dX11_tell_49 (by decide) 52 rfl (fun c_3 => ?_) (fun c_3 => ?_)
    · have h := o_pos h c_3
      refine g_bipush C (v := 7) dX11_tell_53 (by decide) 55 rfl ?_
      refine g_aload_n C dX11_tell_55 rfl 0 rfl 56 rfl ?_
      refine wgX11_237_0 C dX11_tell_56 59 rfl ?_
      refine g_imul C dX11_tell_59 60 rfl ?_
      refine g_aload_n C dX11_tell_60 rfl 0 rfl 61 rfl ?_
      refine wgX11_40_0 C dX11_tell_61 64 rfl ?_
      refine g_aload_n C dX11_tell_64 rfl 0 rfl 65 rfl ?_
      refine wgX11_237_0 C dX11_tell_65 68 rfl ?_
      obtain ⟨c_4, h⟩ := o_chk h
      refine wlM_8 C c_4 dX11_tell_68 69 rfl ?_
      refine g_iadd C dX11_tell_69 70 rfl ?_
      obtain ⟨x1_5, ex1_5, h⟩ := o_lt h
      refine g_istore_n C (lv' := [(1, .int x1_5), (0, .ref (ad 0))]) ex1_5 dX11_tell_70 rfl (by decide) rfl 71 rfl ?_
      refine g_aload_n C dX11_tell_71 rfl 1 rfl 72 rfl ?_
      refine wgX11_46_0 C dX11_tell_72 75 rfl ?_
      refine g_iload_n C dX11_tell_75 rfl 0 rfl 76 rfl ?_
      refine g_aload_n C dX11_tell_76 rfl 1 rfl 77 rfl ?_
      refine g_bipush C (v := 22) dX11_tell_77 (by decide) 79 rfl ?_
      obtain ⟨q_6, hq_6, h⟩ := o_bind h
      refine wcX11_222_M_0 C (kX11_is hq_6) (by decide) (Nat.le_of_ble_eq_true rfl) dX11_tell_79 82 rfl ?_
      obtain ⟨c_7, h⟩ := o_chk h
      obtain ⟨σ_8, eσ_8, h⟩ := o_lt h
      refine wtM_10 C eσ_8 c_7 dX11_tell_82 83 rfl ?_
      refine g_aload_n C dX11_tell_83 rfl 1 rfl 84 rfl ?_
      obtain ⟨q_9, hq_9, h⟩ := o_bind h
      refine wcX11_225_M_0 C (kX11_next hq_9) (by decide) (Nat.le_of_ble_eq_true rfl) dX11_tell_84 87 rfl ?_
      refine g_aload_n C dX11_tell_87 rfl 1 rfl 88 rfl ?_
      refine wgX11_207_0 C dX11_tell_88 91 rfl ?_
      obtain ⟨x2_10, ex2_10, h⟩ := o_lt h
      refine g_istore_n C (lv' := [(2, .int x2_10), (1, .int x1_5), (0, .ref (ad 0))]) ex2_10 dX11_tell_91 rfl (by decide) rfl 92 rfl ?_
      refine g_aload_n C dX11_tell_92 rfl 2 rfl 93 rfl ?_
      refine g_iconst C (v := 1) dX11_tell_93 (by decide) 94 rfl ?_
      obtain ⟨q_11, hq_11, h⟩ := o_bind h
      refine wcX11_246_M_0 C (kX11_must hq_11) (by decide) (Nat.le_of_ble_eq_true rfl) dX11_tell_94 97 rfl ?_
      refine g_aload_n C dX11_tell_97 rfl 2 rfl 98 rfl ?_
      refine g_bipush C (v := 21) dX11_tell_98 (by decide) 100 rfl ?_
      obtain ⟨q_12, hq_12, h⟩ := o_bind h
      refine wcX11_246_M_0 C (kX11_must hq_12) (by decide) (Nat.le_of_ble_eq_true rfl) dX11_tell_100 103 rfl ?_
      refine g_aload_n C dX11_tell_103 rfl 2 rfl 104 rfl ?_
      refine wgX11_50_0 C dX11_tell_104 107 rfl ?_
      refine g_iload_n C dX11_tell_107 rfl 1 rfl 108 rfl ?_
      refine g_aload_n C dX11_tell_108 rfl 2 rfl 109 rfl ?_
      refine g_iconst C (v := 1) dX11_tell_109 (by decide) 110 rfl ?_
      refine g_bipush C (v := 20) dX11_tell_110 (by decide) 112 rfl ?_
      obtain ⟨q_13, hq_13, h⟩ := o_bind h
      refine wcX11_253_M_0 C (kX11_inRange hq_13) (by decide) (Nat.le_of_ble_eq_true rfl) dX11_tell_112 115 rfl ?_
      obtain ⟨c_14, h⟩ := o_chk h
      obtain ⟨σ_15, eσ_15, h⟩ := o_lt h
      refine wtM_11 C eσ_15 c_14 dX11_tell_115 116 rfl ?_
      refine g_aload_n C dX11_tell_116 rfl 2 rfl 117 rfl ?_
      refine wgX11_53_0 C dX11_tell_117 120 rfl ?_
      refine g_iload_n C dX11_tell_120 rfl 1 rfl 121 rfl ?_
      refine g_iconst C (v := 0) dX11_tell_121 (by decide) 122 rfl ?_
      obtain ⟨c_16, h⟩ := o_chk h
      obtain ⟨σ_17, eσ_17, h⟩ := o_lt h
      refine wtM_12 C eσ_17 c_16 dX11_tell_122 123 rfl ?_
      refine g_aload_n C dX11_tell_123 rfl 2 rfl 124 rfl ?_
      refine wgX11_56_0 C dX11_tell_124 127 rfl ?_
      refine g_iload_n C dX11_tell_127 rfl 1 rfl 128 rfl ?_
      refine g_iconst C (v := 0) dX11_tell_128 (by decide) 129 rfl ?_
      obtain ⟨c_18, h⟩ := o_chk h
      obtain ⟨σ_19, eσ_19, h⟩ := o_lt h
      refine wtM_13 C eσ_19 c_18 dX11_tell_129 130 rfl ?_
      refine g_aload_n C dX11_tell_130 rfl 2 rfl 131 rfl ?_
      refine wgX11_46_0 C dX11_tell_131 134 rfl ?_
      refine g_iload_n C dX11_tell_134 rfl 1 rfl 135 rfl ?_
      obtain ⟨c_20, h⟩ := o_chk h
      refine wlM_10 C c_20 dX11_tell_135 136 rfl ?_
      obtain ⟨j178, ej178, h⟩ := o_lt h
      have hj178 : ∀ (x1_21 : Int32) (x2_22 : Int32) (σ_23 : ST), j178 x1_21 x2_22 σ_23 = some res → G p l e (rmL 6) s m args below meth c (MQ below (Qv D (tyz cI cJ cB cZ) (wM ad cI cJ cB cZ) A res) args s 0 0 A) D (wM ad cI cJ cB cZ) A 4 σ_23 178 [(0, .ref (ad 0)), (1, .int x1_21), (2, .int x2_22)] [] := by
        intro x1_21 x2_22 σ_23 h
        rw [ej178] at h
        refine g_aload_n C dX11_tell_178 rfl 0 rfl 179 rfl ?_
        refine g_iconst C (v := 4) dX11_tell_179 (by decide) 180 rfl ?_
        obtain ⟨q_24, hq_24, h⟩ := o_bind h
        refine wcX11_246_M_0 C (kX11_must hq_24) (by decide) (Nat.le_of_ble_eq_true rfl) dX11_tell_180 183 rfl ?_
        refine g_aload_n C dX11_tell_183 rfl 0 rfl 184 rfl ?_
        refine wgX11_204_0 C dX11_tell_184 187 rfl ?_
        refine g_if_le C 191 dX11_tell_187 (by decide) 190 rfl (fun c_25 => ?_) (fun c_25 => ?_)
        · have h := o_pos h c_25
          refine g_bipush C (v := 7) dX11_tell_191 (by decide) 193 rfl ?_
          refine g_aload_n C dX11_tell_193 rfl 0 rfl 194 rfl ?_
          refine wgX11_237_0 C dX11_tell_194 197 rfl ?_
          refine g_imul C dX11_tell_197 198 rfl ?_
          obtain ⟨x3_26, ex3_26, h⟩ := o_lt h
          refine g_istore_n C (lv' := [(3, .int x3_26), (0, .ref (ad 0)), (1, .int x1_21), (2, .int x2_22)]) ex3_26 dX11_tell_198 rfl (by decide) rfl 199 rfl ?_
          exact g_sub C [1, 2, 3, 0] rfl (kX11_tell_L199 C hr (fun x1_34 x2_35 σ_36 h => by
              refine g_aload_n C dX11_tell_232 rfl 0 rfl 233 rfl ?_
              refine wgX11_59_0 C dX11_tell_233 236 rfl ?_
              refine g_iload_n C dX11_tell_236 rfl 1 rfl 237 rfl ?_
              refine g_aload_n C dX11_tell_237 rfl 0 rfl 238 rfl ?_
              refine wgX11_240_0 C dX11_tell_238 241 rfl ?_
              obtain ⟨c_37, h⟩ := o_chk h
              obtain ⟨σ_38, eσ_38, h⟩ := o_lt h
              refine wtM_14 C eσ_38 c_37 dX11_tell_241 242 rfl ?_
              refine g_aload_n C dX11_tell_242 rfl 0 rfl 243 rfl ?_
              refine g_iconst C (v := 0) dX11_tell_243 (by decide) 244 rfl ?_
              obtain ⟨σ_39, eσ_39, h⟩ := o_lt h
              refine wpX11_257_0 C eσ_39 dX11_tell_244 247 rfl ?_
              refine g_aload_n C dX11_tell_247 rfl 0 rfl 248 rfl ?_
              refine g_iconst C (v := 0) dX11_tell_248 (by decide) 249 rfl ?_
              obtain ⟨σ_40, eσ_40, h⟩ := o_lt h
              refine wpX11_260_0 C eσ_40 dX11_tell_249 252 rfl ?_
              refine g_aload_n C dX11_tell_252 rfl 0 rfl 253 rfl ?_
              obtain ⟨q_41, hq_41, h⟩ := o_bind h
              refine wcX11_263_M_0 C (kX11_expression hq_41) (by decide) (Nat.le_of_ble_eq_true rfl) dX11_tell_253 256 rfl ?_
              refine g_aload_n C dX11_tell_256 rfl 0 rfl 257 rfl ?_
              refine wgX11_62_0 C dX11_tell_257 260 rfl ?_
              refine g_iload_n C dX11_tell_260 rfl 1 rfl 261 rfl ?_
              refine g_aload_n C dX11_tell_261 rfl 0 rfl 262 rfl ?_
              refine wgX11_240_0 C dX11_tell_262 265 rfl ?_
              obtain ⟨c_42, h⟩ := o_chk h
              obtain ⟨σ_43, eσ_43, h⟩ := o_lt h
              refine wtM_15 C eσ_43 c_42 dX11_tell_265 266 rfl ?_
              refine g_aload_n C dX11_tell_266 rfl 0 rfl 267 rfl ?_
              refine g_bipush C (v := 6) dX11_tell_267 (by decide) 269 rfl ?_
              obtain ⟨q_44, hq_44, h⟩ := o_bind h
              refine wcX11_246_M_0 C (kX11_must hq_44) (by decide) (Nat.le_of_ble_eq_true rfl) dX11_tell_269 272 rfl ?_
              refine g_aload_n C dX11_tell_272 rfl 0 rfl 273 rfl ?_
              refine wgX11_204_0 C dX11_tell_273 276 rfl ?_
              refine g_if_le C 280 dX11_tell_276 (by decide) 279 rfl (fun c_45 => ?_) (fun c_45 => ?_)
              · have h := o_pos h c_45
                refine g_aload_n C dX11_tell_280 rfl 0 rfl 281 rfl ?_
                refine wgX11_43_0 C dX11_tell_281 284 rfl ?_
                refine g_iload_n C dX11_tell_284 rfl 1 rfl 285 rfl ?_
                refine g_aload_n C dX11_tell_285 rfl 0 rfl 286 rfl ?_
                refine wgX11_30_0 C dX11_tell_286 289 rfl ?_
                refine g_iload_n C dX11_tell_289 rfl 2 rfl 290 rfl ?_
                obtain ⟨c_46, h⟩ := o_chk h
                refine wlM_6 C c_46 dX11_tell_290 291 rfl ?_
                obtain ⟨c_47, h⟩ := o_chk h
                obtain ⟨σ_48, eσ_48, h⟩ := o_lt h
                refine wtM_9 C eσ_48 c_47 dX11_tell_291 292 rfl ?_
                refine g_aload_n C dX11_tell_292 rfl 0 rfl 293 rfl ?_
                refine wgX11_65_0 C dX11_tell_293 296 rfl ?_
                refine g_iload_n C dX11_tell_296 rfl 1 rfl 297 rfl ?_
                refine g_aload_n C dX11_tell_297 rfl 0 rfl 298 rfl ?_
                refine wgX11_257_0 C dX11_tell_298 301 rfl ?_
                obtain ⟨c_49, h⟩ := o_chk h
                obtain ⟨σ_50, eσ_50, h⟩ := o_lt h
                refine wtM_16 C eσ_50 c_49 dX11_tell_301 302 rfl ?_
                refine g_aload_n C dX11_tell_302 rfl 0 rfl 303 rfl ?_
                refine wgX11_68_0 C dX11_tell_303 306 rfl ?_
                refine g_iload_n C dX11_tell_306 rfl 1 rfl 307 rfl ?_
                refine g_aload_n C dX11_tell_307 rfl 0 rfl 308 rfl ?_
                refine wgX11_260_0 C dX11_tell_308 311 rfl ?_
                obtain ⟨c_51, h⟩ := o_chk h
                obtain ⟨σ_52, eσ_52, h⟩ := o_lt h
                refine wtM_17 C eσ_52 c_51 dX11_tell_311 312 rfl ?_
                refine g_aload_n C dX11_tell_312 rfl 0 rfl 313 rfl ?_
                refine wgX11_71_0 C dX11_tell_313 316 rfl ?_
                refine g_iload_n C dX11_tell_316 rfl 1 rfl 317 rfl ?_
                refine g_aload_n C dX11_tell_317 rfl 0 rfl 318 rfl ?_
                refine wgX11_257_0 C dX11_tell_318 321 rfl ?_
                obtain ⟨c_53, h⟩ := o_chk h
                obtain ⟨σ_54, eσ_54, h⟩ := o_lt h
                refine wtM_18 C eσ_54 c_53 dX11_tell_321 322 rfl ?_
                refine g_iconst C (v := 0) dX11_tell_322 (by decide) 323 rfl ?_
                obtain ⟨x3_55, ex3_55, h⟩ := o_lt h
                refine g_istore_n C (lv' := [(3, .int x3_55), (0, .ref (ad 0)), (1, .int x1_34), (2, .int x2_35)]) ex3_55 dX11_tell_323 rfl (by decide) rfl 324 rfl ?_
                exact g_sub C [1, 2, 0] rfl (kX11_tell_L324 C hr (fun σ_65 h => by
                    refine g_aload_n C dX11_tell_378 rfl 0 rfl 379 rfl ?_
                    refine wgX11_40_0 C dX11_tell_379 382 rfl ?_
                    refine g_aload_n C dX11_tell_382 rfl 0 rfl 383 rfl ?_
                    refine wgX11_237_0 C dX11_tell_383 386 rfl ?_
                    refine g_dup2 C dX11_tell_386 rfl rfl 387 rfl ?_
                    obtain ⟨c_66, h⟩ := o_chk h
                    refine wlM_8 C c_66 dX11_tell_387 388 rfl ?_
                    refine g_iconst C (v := 1) dX11_tell_388 (by decide) 389 rfl ?_
                    refine g_iadd C dX11_tell_389 390 rfl ?_
                    obtain ⟨c_67, h⟩ := o_chk h
                    obtain ⟨σ_68, eσ_68, h⟩ := o_lt h
                    refine wtM_8 C eσ_68 c_67 dX11_tell_390 391 rfl ?_
                    exact g_vret C hr dX11_tell_391 h) n x1_34 x3_55 σ_54 h)
              · have h := o_neg h c_45
                exact g_vret C hr dX11_tell_279 h) n x1_21 x2_22 x3_26 q_24 h)
        · have h := o_neg h c_25
          exact g_vret C hr dX11_tell_190 h
      refine g_if_eq C 178 dX11_tell_136 (by decide) 139 rfl (fun c_69 => ?_) (fun c_69 => ?_)
      · have h := o_pos h c_69
        exact g_sub C [2, 1, 0] rfl (hj178 x1_5 x2_10 σ_19 h)
      · have h := o_neg h c_69
        refine g_aload_n C dX11_tell_139 rfl 2 rfl 140 rfl ?_
        refine g_bipush C (v := 23) dX11_tell_140 (by decide) 142 rfl ?_
        obtain ⟨q_70, hq_70, h⟩ := o_bind h
        refine wcX11_246_M_0 C (kX11_must hq_70) (by decide) (Nat.le_of_ble_eq_true rfl) dX11_tell_142 145 rfl ?_
        refine g_aload_n C dX11_tell_145 rfl 2 rfl 146 rfl ?_
        refine wgX11_53_0 C dX11_tell_146 149 rfl ?_
        refine g_iload_n C dX11_tell_149 rfl 1 rfl 150 rfl ?_
        refine g_aload_n C dX11_tell_150 rfl 2 rfl 151 rfl ?_
        refine g_iconst C (v := 0) dX11_tell_151 (by decide) 152 rfl ?_
        refine g_sipush C (v := 399) dX11_tell_152 (by decide) 155 rfl ?_
        obtain ⟨q_71, hq_71, h⟩ := o_bind h
        refine wcX11_253_M_0 C (kX11_inRange hq_71) (by decide) (Nat.le_of_ble_eq_true rfl) dX11_tell_155 158 rfl ?_
        obtain ⟨c_72, h⟩ := o_chk h
        obtain ⟨σ_73, eσ_73, h⟩ := o_lt h
        refine wtM_12 C eσ_73 c_72 dX11_tell_158 159 rfl ?_
        refine g_aload_n C dX11_tell_159 rfl 2 rfl 160 rfl ?_
        refine g_bipush C (v := 24) dX11_tell_160 (by decide) 162 rfl ?_
        obtain ⟨q_74, hq_74, h⟩ := o_bind h
        refine wcX11_246_M_0 C (kX11_must hq_74) (by decide) (Nat.le_of_ble_eq_true rfl) dX11_tell_162 165 rfl ?_
        refine g_aload_n C dX11_tell_165 rfl 2 rfl 166 rfl ?_
        refine wgX11_56_0 C dX11_tell_166 169 rfl ?_
        refine g_iload_n C dX11_tell_169 rfl 1 rfl 170 rfl ?_
        refine g_aload_n C dX11_tell_170 rfl 2 rfl 171 rfl ?_
        refine g_iconst C (v := 0) dX11_tell_171 (by decide) 172 rfl ?_
        refine g_bipush C (v := 100) dX11_tell_172 (by decide) 174 rfl ?_
        obtain ⟨q_75, hq_75, h⟩ := o_bind h
        refine wcX11_253_M_0 C (kX11_inRange hq_75) (by decide) (Nat.le_of_ble_eq_true rfl) dX11_tell_174 177 rfl ?_
        obtain ⟨c_76, h⟩ := o_chk h
        obtain ⟨σ_77, eσ_77, h⟩ := o_lt h
        refine wtM_13 C eσ_77 c_76 dX11_tell_177 178 rfl ?_
        exact g_sub C [2, 1, 0] rfl (hj178 x1_5 x2_10 σ_77 h)
    · have h := o_neg h c_3
      exact g_vret C hr dX11_tell_52 h
  obtain ⟨j26, ej26, h⟩ := o_lt h
  have hj26 : ∀ (σ_78 : ST), j26 σ_78 = some res → G p l e (rmL 6) s m args below meth c (MQ below (Qv D (tyz cI cJ cB cZ) (wM ad cI cJ cB cZ) A res) args s 0 0 A) D (wM ad cI cJ cB cZ) A 4 σ_78 26 [(0, .ref (ad 0))] [] := by
    intro σ_78 h
    rw [ej26] at h
    refine g_aload_n C dX11_tell_26 rfl 0 rfl 27 rfl ?_
    refine wgX11_40_0 C dX11_tell_27 30 rfl ?_
    refine g_aload_n C dX11_tell_30 rfl 0 rfl 31 rfl ?_
    refine wgX11_237_0 C dX11_tell_31 34 rfl ?_
    obtain ⟨c_79, h⟩ := o_chk h
    refine wlM_8 C c_79 dX11_tell_34 35 rfl ?_
    refine g_bipush C (v := 7) dX11_tell_35 (by decide) 37 rfl ?_
    refine g_icmp_ne C 45 dX11_tell_37 (by decide) 40 rfl (fun c_80 => ?_) (fun c_80 => ?_)
    · have h := o_neg h c_80
      exact g_sub C [0] rfl (hj45 σ_78 h)
    · have h := o_pos h c_80
      refine g_aload_n C dX11_tell_40 rfl 0 rfl 41 rfl ?_
      refine g_iconst C (v := 2) dX11_tell_41 (by decide) 42 rfl ?_
      obtain ⟨q_81, hq_81, h⟩ := o_bind h
      refine wcX11_219_M_0 C (kX11_fail hq_81) (by decide) (Nat.le_of_ble_eq_true rfl) dX11_tell_42 45 rfl ?_
      exact g_sub C [0] rfl (hj45 q_81 h)
  refine g_if_ne C 26 dX11_tell_6 (by decide) 9 rfl (fun c_82 => ?_) (fun c_82 => ?_)
  · have h := o_neg h c_82
    exact g_sub C [0] rfl (hj26 q_1.2 h)
  · have h := o_pos h c_82
    refine g_aload_n C dX11_tell_9 rfl 0 rfl 10 rfl ?_
    refine g_bipush C (v := 22) dX11_tell_10 (by decide) 12 rfl ?_
    obtain ⟨q_83, hq_83, h⟩ := o_bind h
    refine wcX11_222_M_0 C (kX11_is hq_83) (by decide) (Nat.le_of_ble_eq_true rfl) dX11_tell_12 15 rfl ?_
    refine g_if_ne C 26 dX11_tell_15 (by decide) 18 rfl (fun c_84 => ?_) (fun c_84 => ?_)
    · have h := o_neg h c_84
      exact g_sub C [0] rfl (hj26 q_83.2 h)
    · have h := o_pos h c_84
      refine g_aload_n C dX11_tell_18 rfl 0 rfl 19 rfl ?_
      refine g_iconst C (v := 1) dX11_tell_19 (by decide) 20 rfl ?_
      obtain ⟨q_85, hq_85, h⟩ := o_bind h
      refine wcX11_219_M_0 C (kX11_fail hq_85) (by decide) (Nat.le_of_ble_eq_true rfl) dX11_tell_20 23 rfl ?_
      refine g_goto C 45 dX11_tell_23 (by decide) ?_
      exact g_sub C [0] rfl (hj45 q_85 h)
end WK
/-! X11_read public int read(); -/
def fX11_read_L10 (k36 : ST → Option (Int32 × ST)) : Nat → Int32 → ST → Option (Int32 × ST)
  | 0, _, _ => none
  | n + 1, x1, σ => (if (gI σ 2) ≤ x1 then (k36 σ) else (if ix x1 2000 then (if ix x1 2000 then (lt (stA σ 2 x1 (nb (ldA σ 1 x1))) (fun σ_6 => (lt (x1 + 1) (fun x1_7 => (fX11_read_L10 k36 n x1_7 σ_6))))) else none) else none))
def fX11_read_L97 (k119 : ST → Option (Int32 × ST)) : Nat → ST → Option (Int32 × ST)
  | 0, _ => none
  | n + 1, σ => (if (gI σ 6) = 0 then (Option.bind (fX11_is ((0 : Int32)) σ) (fun q_20 => (if q_20.1 = 0 then (Option.bind (fX11_tell n q_20.2) (fun q_22 => (fX11_read_L97 k119 n q_22))) else (k119 q_20.2)))) else (k119 σ))
def fX11_read_L186 (k204 : ST → Option (Int32 × ST)) : Nat → Int32 → ST → Option (Int32 × ST)
  | 0, _, _ => none
  | n + 1, x1, σ => (if ((3 : Int32)) ≤ x1 then (k204 σ) else (if ix x1 3 then (lt (stA σ 33 x1 ((-1 : Int32))) (fun σ_33 => (lt (x1 + 1) (fun x1_34 => (fX11_read_L186 k204 n x1_34 σ_33))))) else none))
def fX11_read_L286 (k315 : Int32 → Int32 → ST → Option (Int32 × ST)) : Nat → Int32 → Int32 → Int32 → ST → Option (Int32 × ST)
  | 0, _, _, _, _ => none
  | n + 1, x1, x2, x3, σ => (if ((8 : Int32)) ≤ x3 then (k315 x1 x2 σ) else (if ix ((((8 : Int32)) * ((((6 : Int32)) * x1) + x2)) + x3) 336 then (lt (stB σ 42 ((((8 : Int32)) * ((((6 : Int32)) * x1) + x2)) + x3) ((0 : Int64))) (fun σ_57 => (lt (x3 + 1) (fun x3_58 => (fX11_read_L286 k315 n x1 x2 x3_58 σ_57))))) else none))
def fX11_read_L242 (k321 : Int32 → ST → Option (Int32 × ST)) : Nat → Int32 → Int32 → ST → Option (Int32 × ST)
  | 0, _, _, _ => none
  | n + 1, x1, x2, σ => (if ((6 : Int32)) ≤ x2 then (k321 x1 σ) else (if ix ((((6 : Int32)) * x1) + x2) 42 then (lt (stA σ 39 ((((6 : Int32)) * x1) + x2) (nz ((0 : Int32)))) (fun σ_49 => (if ix ((((6 : Int32)) * x1) + x2) 42 then (lt (stA σ_49 40 ((((6 : Int32)) * x1) + x2) (nz ((0 : Int32)))) (fun σ_51 => (if ix ((((6 : Int32)) * x1) + x2) 42 then (lt (stA σ_51 41 ((((6 : Int32)) * x1) + x2) ((0 : Int32))) (fun σ_53 => (lt ((0 : Int32)) (fun x3_54 => (fX11_read_L286 (fun (x1_59 : Int32) (x2_60 : Int32) (σ_61 : ST) => (lt (x2_60 + 1) (fun x2_62 => (fX11_read_L242 k321 n x1_59 x2_62 σ_61)))) n x1 x2 x3_54 σ_53))))) else none))) else none))) else none))
def fX11_read_L206  : Nat → Int32 → ST → Option (Int32 × ST)
  | 0, _, _ => none
  | n + 1, x1, σ => (if ((7 : Int32)) ≤ x1 then (some ((0 : Int32), σ)) else (if ix x1 7 then (lt (stA σ 35 x1 ((-1 : Int32))) (fun σ_39 => (if ix x1 7 then (lt (stA σ_39 36 x1 ((0 : Int32))) (fun σ_41 => (if ix x1 7 then (lt (stA σ_41 37 x1 ((0 : Int32))) (fun σ_43 => (if ix x1 7 then (lt (stA σ_43 34 x1 x1) (fun σ_45 => (lt ((0 : Int32)) (fun x2_46 => (fX11_read_L242 (fun (x1_63 : Int32) (σ_64 : ST) => (lt (x1_63 + 1) (fun x1_65 => (fX11_read_L206 n x1_65 σ_64)))) n x1 x2_46 σ_45))))) else none))) else none))) else none))) else none))
def fX11_read (n : Nat)  (σ : ST) : Option (Int32 × ST) :=
  (lt (sI σ 2 (gI σ 1)) (fun σ_1 => (lt ((0 : Int32)) (fun x1_2 => (fX11_read_L10 (fun (σ_8 : ST) => (lt (sI σ_8 1 ((0 : Int32))) (fun σ_9 => (Option.bind (fX11_cut n σ_9) (fun q_10 => (lt (sI q_10 4 ((0 : Int32))) (fun σ_11 => (lt (sI σ_11 5 ((0 : Int32))) (fun σ_12 => (lt (sI σ_12 6 ((0 : Int32))) (fun σ_13 => (lt (sI σ_13 8 ((0 : Int32))) (fun σ_14 => (lt (sI σ_14 12 (((1 : Int32)) - (gI σ_14 11))) (fun σ_15 => (if ix (gI σ_15 12) 2 then (lt (stA σ_15 8 (gI σ_15 12) ((0 : Int32))) (fun σ_17 => (lt (sI σ_17 13 (((500 : Int32)) * (gI σ_17 12))) (fun σ_18 => (fX11_read_L97 (fun (σ_23 : ST) => (lt (fun (v_24 : Int32) (σ_25 : ST) => (lt (sI σ_25 10 v_24) (fun σ_26 => (if (gI σ_26 6) ≤ 0 then (if (gI σ_26 8) ≤ 0 then (lt (sI σ_26 11 (gI σ_26 12)) (fun σ_29 => (lt ((0 : Int32)) (fun x1_30 => (fX11_read_L186 (fun (σ_35 : ST) => (lt ((0 : Int32)) (fun x1_36 => (fX11_read_L206 n x1_36 σ_35)))) n x1_30 σ_29))))) else (some (gI σ_26 8, σ_26))) else (some (gI σ_26 6, σ_26)))))) (fun j149 => (if (gI σ_23 6) ≤ 0 then (if (gI σ_23 8) ≤ 0 then (j149 ((-1 : Int32)) σ_23) else (j149 (gI σ_23 9) σ_23)) else (j149 (gI σ_23 7) σ_23))))) n σ_18))))) else none)))))))))))))))) n x1_2 σ_1)))))
section WK
variable {p : Program} {l : Launch} {e : Env} {R : Room} {s : State} {m : MethodId} {args : Array Value} {below : List Frame} {meth : Method} {c : Code} {Q : State → Prop}
variable {D : va_G} {ad : Nat → Nat} {cI cJ cB cZ : ClassId} {A : Nat → Prop} {cc : ByteArray} {nL lev : Nat}
variable {σ : ST} {pc : Nat} {lv : List (Nat × Value)} {st : List Value}
set_option maxHeartbeats 4000000 in
set_option maxRecDepth 100000 in
theorem kX11_read_L10 (C : Ctx p l e (rmL 7) s m args below meth c D (tyz cI cJ cB cZ) (wM ad cI cJ cB cZ) A cX11_read 4 7 RX11) (hr : meth.sig.returnType = some .int) {res : Int32 × ST} {k36 : ST → Option (Int32 × ST)} (hk36 : ∀ (σ : ST), k36 σ = some res → G p l e (rmL 7) s m args below meth c (MQ below (Qi D (tyz cI cJ cB cZ) (wM ad cI cJ cB cZ) A res) args s 0 0 A) D (wM ad cI cJ cB cZ) A 4 σ 36 [(0, .ref (ad 0))] []) : ∀ (n : Nat) (x1 : Int32) (σ : ST), fX11_read_L10 k36 n x1 σ = some res → G p l e (rmL 7) s m args below meth c (MQ below (Qi D (tyz cI cJ cB cZ) (wM ad cI cJ cB cZ) A res) args s 0 0 A) D (wM ad cI cJ cB cZ) A 4 σ 10 [(0, .ref (ad 0)), (1, .int x1)] [] := by
  intro n
  induction n with
  | zero => intro x1 σ h; have h : none = some res := h; cases h
  | succ n ih =>
    intro x1 σ h
    rw [fX11_read_L10] at h
    refine g_iload_n C dX11_read_10 rfl 1 rfl 11 rfl ?_
    refine g_aload_n C dX11_read_11 rfl 0 rfl 12 rfl ?_
    refine wgX11_178_0 C dX11_read_12 15 rfl ?_
    refine g_icmp_ge C 36 dX11_read_15 (by decide) 18 rfl (fun c_3 => ?_) (fun c_3 => ?_)
    · have h := o_pos h c_3
      exact g_sub C [0] rfl (hk36 σ h)
    · have h := o_neg h c_3
      refine g_aload_n C dX11_read_18 rfl 0 rfl 19 rfl ?_
      refine wgX11_17_0 C dX11_read_19 22 rfl ?_
      refine g_iload_n C dX11_read_22 rfl 1 rfl 23 rfl ?_
      refine g_aload_n C dX11_read_23 rfl 0 rfl 24 rfl ?_
      refine wgX11_13_0 C dX11_read_24 27 rfl ?_
      refine g_iload_n C dX11_read_27 rfl 1 rfl 28 rfl ?_
      obtain ⟨c_4, h⟩ := o_chk h
      refine wlM_1 C c_4 dX11_read_28 29 rfl ?_
      obtain ⟨c_5, h⟩ := o_chk h
      obtain ⟨σ_6, eσ_6, h⟩ := o_lt h
      refine wtM_2 C eσ_6 c_5 dX11_read_29 30 rfl ?_
      obtain ⟨x1_7, ex1_7, h⟩ := o_lt h
      refine g_iinc C (lv' := [(1, .int x1_7), (0, .ref (ad 0))]) ex1_7 dX11_read_30 1 rfl (by decide) (by decide) rfl 33 rfl ?_
      refine g_goto C 10 dX11_read_33 (by decide) ?_
      exact g_sub C [1, 0] rfl (ih x1_7 σ_6 h)
set_option maxHeartbeats 4000000 in
set_option maxRecDepth 100000 in
theorem kX11_read_L97 (C : Ctx p l e (rmL 7) s m args below meth c D (tyz cI cJ cB cZ) (wM ad cI cJ cB cZ) A cX11_read 4 7 RX11) (hr : meth.sig.returnType = some .int) {res : Int32 × ST} {k119 : ST → Option (Int32 × ST)} (hk119 : ∀ (σ : ST), k119 σ = some res → G p l e (rmL 7) s m args below meth c (MQ below (Qi D (tyz cI cJ cB cZ) (wM ad cI cJ cB cZ) A res) args s 0 0 A) D (wM ad cI cJ cB cZ) A 4 σ 119 [(0, .ref (ad 0))] []) : ∀ (n : Nat) (σ : ST), fX11_read_L97 k119 n σ = some res → G p l e (rmL 7) s m args below meth c (MQ below (Qi D (tyz cI cJ cB cZ) (wM ad cI cJ cB cZ) A res) args s 0 0 A) D (wM ad cI cJ cB cZ) A 4 σ 97 [(0, .ref (ad 0))] [] := by
  intro n
  induction n with
  | zero => intro σ h; have h : none = some res := h; cases h
  | succ n ih =>
    intro σ h
    rw [fX11_read_L97] at h
    refine g_aload_n C dX11_read_97 rfl 0 rfl 98 rfl ?_
    refine wgX11_204_0 C dX11_read_98 101 rfl ?_
    refine g_if_ne C 119 dX11_read_101 (by decide) 104 rfl (fun c_19 => ?_) (fun c_19 => ?_)
    · have h := o_neg h c_19
      exact g_sub C [0] rfl (hk119 σ h)
    · have h := o_pos h c_19
      refine g_aload_n C dX11_read_104 rfl 0 rfl 105 rfl ?_
      refine g_iconst C (v := 0) dX11_read_105 (by decide) 106 rfl ?_
      obtain ⟨q_20, hq_20, h⟩ := o_bind h
      refine wcX11_222_M_0 C (kX11_is hq_20) (by decide) (Nat.le_of_ble_eq_true rfl) dX11_read_106 109 rfl ?_
      refine g_if_ne C 119 dX11_read_109 (by decide) 112 rfl (fun c_21 => ?_) (fun c_21 => ?_)
      · have h := o_neg h c_21
        exact g_sub C [0] rfl (hk119 q_20.2 h)
      · have h := o_pos h c_21
        refine g_aload_n C dX11_read_112 rfl 0 rfl 113 rfl ?_
        obtain ⟨q_22, hq_22, h⟩ := o_bind h
        refine wcX11_243_M_0 C (kX11_tell hq_22) (by decide) (Nat.le_of_ble_eq_true rfl) dX11_read_113 116 rfl ?_
        refine g_goto C 97 dX11_read_116 (by decide) ?_
        exact g_sub C [0] rfl (ih q_22 h)
set_option maxHeartbeats 4000000 in
set_option maxRecDepth 100000 in
theorem kX11_read_L186 (C : Ctx p l e (rmL 7) s m args below meth c D (tyz cI cJ cB cZ) (wM ad cI cJ cB cZ) A cX11_read 4 7 RX11) (hr : meth.sig.returnType = some .int) {res : Int32 × ST} {k204 : ST → Option (Int32 × ST)} (hk204 : ∀ (σ : ST), k204 σ = some res → G p l e (rmL 7) s m args below meth c (MQ below (Qi D (tyz cI cJ cB cZ) (wM ad cI cJ cB cZ) A res) args s 0 0 A) D (wM ad cI cJ cB cZ) A 4 σ 204 [(0, .ref (ad 0))] []) : ∀ (n : Nat) (x1 : Int32) (σ : ST), fX11_read_L186 k204 n x1 σ = some res → G p l e (rmL 7) s m args below meth c (MQ below (Qi D (tyz cI cJ cB cZ) (wM ad cI cJ cB cZ) A res) args s 0 0 A) D (wM ad cI cJ cB cZ) A 4 σ 186 [(0, .ref (ad 0)), (1, .int x1)] [] := by
  intro n
  induction n with
  | zero => intro x1 σ h; have h : none = some res := h; cases h
  | succ n ih =>
    intro x1 σ h
    rw [fX11_read_L186] at h
    refine g_iload_n C dX11_read_186 rfl 1 rfl 187 rfl ?_
    refine g_iconst C (v := 3) dX11_read_187 (by decide) 188 rfl ?_
    refine g_icmp_ge C 204 dX11_read_188 (by decide) 191 rfl (fun c_31 => ?_) (fun c_31 => ?_)
    · have h := o_pos h c_31
      exact g_sub C [0] rfl (hk204 σ h)
    · have h := o_neg h c_31
      refine g_aload_n C dX11_read_191 rfl 0 rfl 192 rfl ?_
      refine wgX11_116_0 C dX11_read_192 195 rfl ?_
      refine g_iload_n C dX11_read_195 rfl 1 rfl 196 rfl ?_
      refine g_iconst C (v := -1) dX11_read_196 (by decide) 197 rfl ?_
      obtain ⟨c_32, h⟩ := o_chk h
      obtain ⟨σ_33, eσ_33, h⟩ := o_lt h
      refine wtM_33 C eσ_33 c_32 dX11_read_197 198 rfl ?_
      obtain ⟨x1_34, ex1_34, h⟩ := o_lt h
      refine g_iinc C (lv' := [(1, .int x1_34), (0, .ref (ad 0))]) ex1_34 dX11_read_198 1 rfl (by decide) (by decide) rfl 201 rfl ?_
      refine g_goto C 186 dX11_read_201 (by decide) ?_
      exact g_sub C [1, 0] rfl (ih x1_34 σ_33 h)
set_option maxHeartbeats 4000000 in
set_option maxRecDepth 100000 in
theorem kX11_read_L286 (C : Ctx p l e (rmL 7) s m args below meth c D (tyz cI cJ cB cZ) (wM ad cI cJ cB cZ) A cX11_read 4 7 RX11) (hr : meth.sig.returnType = some .int) {res : Int32 × ST} {k315 : Int32 → Int32 → ST → Option (Int32 × ST)} (hk315 : ∀ (x1 : Int32) (x2 : Int32) (σ : ST), k315 x1 x2 σ = some res → G p l e (rmL 7) s m args below meth c (MQ below (Qi D (tyz cI cJ cB cZ) (wM ad cI cJ cB cZ) A res) args s 0 0 A) D (wM ad cI cJ cB cZ) A 4 σ 315 [(0, .ref (ad 0)), (1, .int x1), (2, .int x2)] []) : ∀ (n : Nat) (x1 : Int32) (x2 : Int32) (x3 : Int32) (σ : ST), fX11_read_L286 k315 n x1 x2 x3 σ = some res → G p l e (rmL 7) s m args below meth c (MQ below (Qi D (tyz cI cJ cB cZ) (wM ad cI cJ cB cZ) A res) args s 0 0 A) D (wM ad cI cJ cB cZ) A 4 σ 286 [(0, .ref (ad 0)), (1, .int x1), (2, .int x2), (3, .int x3)] [] := by
  intro n
  induction n with
  | zero => intro x1 x2 x3 σ h; have h : none = some res := h; cases h
  | succ n ih =>
    intro x1 x2 x3 σ h
    rw [fX11_read_L286] at h
    refine g_iload_n C dX11_read_286 rfl 3 rfl 287 rfl ?_
    refine g_bipush C (v := 8) dX11_read_287 (by decide) 289 rfl ?_
    refine g_icmp_ge C 315 dX11_read_289 (by decide) 292 rfl (fun c_55 => ?_) (fun c_55 => ?_)
    · have h := o_pos h c_55
      exact g_sub C [0, 1, 2] rfl (hk315 x1 x2 σ h)
    · have h := o_neg h c_55
      refine g_aload_n C dX11_read_292 rfl 0 rfl 293 rfl ?_
      refine wgX11_143_0 C dX11_read_293 296 rfl ?_
      refine g_bipush C (v := 8) dX11_read_296 (by decide) 298 rfl ?_
      refine g_bipush C (v := 6) dX11_read_298 (by decide) 300 rfl ?_
      refine g_iload_n C dX11_read_300 rfl 1 rfl 301 rfl ?_
      refine g_imul C dX11_read_301 302 rfl ?_
      refine g_iload_n C dX11_read_302 rfl 2 rfl 303 rfl ?_
      refine g_iadd C dX11_read_303 304 rfl ?_
      refine g_imul C dX11_read_304 305 rfl ?_
      refine g_iload_n C dX11_read_305 rfl 3 rfl 306 rfl ?_
      refine g_iadd C dX11_read_306 307 rfl ?_
      refine g_lconst C (v := 0) dX11_read_307 (by decide) 308 rfl ?_
      obtain ⟨c_56, h⟩ := o_chk h
      obtain ⟨σ_57, eσ_57, h⟩ := o_lt h
      refine wtM_42 C eσ_57 c_56 dX11_read_308 309 rfl ?_
      obtain ⟨x3_58, ex3_58, h⟩ := o_lt h
      refine g_iinc C (lv' := [(3, .int x3_58), (0, .ref (ad 0)), (1, .int x1), (2, .int x2)]) ex3_58 dX11_read_309 3 rfl (by decide) (by decide) rfl 312 rfl ?_
      refine g_goto C 286 dX11_read_312 (by decide) ?_
      exact g_sub C [1, 2, 3, 0] rfl (ih x1 x2 x3_58 σ_57 h)
set_option maxHeartbeats 4000000 in
set_option maxRecDepth 100000 in
theorem kX11_read_L242 (C : Ctx p l e (rmL 7) s m args below meth c D (tyz cI cJ cB cZ) (wM ad cI cJ cB cZ) A cX11_read 4 7 RX11) (hr : meth.sig.returnType = some .int) {res : Int32 × ST} {k321 : Int32 → ST → Option (Int32 × ST)} (hk321 : ∀ (x1 : Int32) (σ : ST), k321 x1 σ = some res → G p l e (rmL 7) s m args below meth c (MQ below (Qi D (tyz cI cJ cB cZ) (wM ad cI cJ cB cZ) A res) args s 0 0 A) D (wM ad cI cJ cB cZ) A 4 σ 321 [(0, .ref (ad 0)), (1, .int x1)] []) : ∀ (n : Nat) (x1 : Int32) (x2 : Int32) (σ : ST), fX11_read_L242 k321 n x1 x2 σ = some res → G p l e (rmL 7) s m args below meth c (MQ below (Qi D (tyz cI cJ cB cZ) (wM ad cI cJ cB cZ) A res) args s 0 0 A) D (wM ad cI cJ cB cZ) A 4 σ 242 [(0, .ref (ad 0)), (1, .int x1), (2, .int x2)] [] := by
  intro n
  induction n with
  | zero => intro x1 x2 σ h; have h : none = some res := h; cases h
  | succ n ih =>
    intro x1 x2 σ h
    rw [fX11_read_L242] at h
    refine g_iload_n C dX11_read_242 rfl 2 rfl 243 rfl ?_
    refine g_bipush C (v := 6) dX11_read_243 (by decide) 245 rfl ?_
    refine g_icmp_ge C 321 dX11_read_245 (by decide) 248 rfl (fun c_47 => ?_) (fun c_47 => ?_)
    · have h := o_pos h c_47
      exact g_sub C [0, 1] rfl (hk321 x1 σ h)
    · have h := o_neg h c_47
      refine g_aload_n C dX11_read_248 rfl 0 rfl 249 rfl ?_
      refine wgX11_134_0 C dX11_read_249 252 rfl ?_
      refine g_bipush C (v := 6) dX11_read_252 (by decide) 254 rfl ?_
      refine g_iload_n C dX11_read_254 rfl 1 rfl 255 rfl ?_
      refine g_imul C dX11_read_255 256 rfl ?_
      refine g_iload_n C dX11_read_256 rfl 2 rfl 257 rfl ?_
      refine g_iadd C dX11_read_257 258 rfl ?_
      refine g_iconst C (v := 0) dX11_read_258 (by decide) 259 rfl ?_
      obtain ⟨c_48, h⟩ := o_chk h
      obtain ⟨σ_49, eσ_49, h⟩ := o_lt h
      refine wtM_39 C eσ_49 c_48 dX11_read_259 260 rfl ?_
      refine g_aload_n C dX11_read_260 rfl 0 rfl 261 rfl ?_
      refine wgX11_137_0 C dX11_read_261 264 rfl ?_
      refine g_bipush C (v := 6) dX11_read_264 (by decide) 266 rfl ?_
      refine g_iload_n C dX11_read_266 rfl 1 rfl 267 rfl ?_
      refine g_imul C dX11_read_267 268 rfl ?_
      refine g_iload_n C dX11_read_268 rfl 2 rfl 269 rfl ?_
      refine g_iadd C dX11_read_269 270 rfl ?_
      refine g_iconst C (v := 0) dX11_read_270 (by decide) 271 rfl ?_
      obtain ⟨c_50, h⟩ := o_chk h
      obtain ⟨σ_51, eσ_51, h⟩ := o_lt h
      refine wtM_40 C eσ_51 c_50 dX11_read_271 272 rfl ?_
      refine g_aload_n C dX11_read_272 rfl 0 rfl 273 rfl ?_
      refine wgX11_140_0 C dX11_read_273 276 rfl ?_
      refine g_bipush C (v := 6) dX11_read_276 (by decide) 278 rfl ?_
      refine g_iload_n C dX11_read_278 rfl 1 rfl 279 rfl ?_
      refine g_imul C dX11_read_279 280 rfl ?_
      refine g_iload_n C dX11_read_280 rfl 2 rfl 281 rfl ?_
      refine g_iadd C dX11_read_281 282 rfl ?_
      refine g_iconst C (v := 0) dX11_read_282 (by decide) 283 rfl ?_
      obtain ⟨c_52, h⟩ := o_chk h
      obtain ⟨σ_53, eσ_53, h⟩ := o_lt h
      refine wtM_41 C eσ_53 c_52 dX11_read_283 284 rfl ?_
      refine g_iconst C (v := 0) dX11_read_284 (by decide) 285 rfl ?_
      obtain ⟨x3_54, ex3_54, h⟩ := o_lt h
      refine g_istore_n C (lv' := [(3, .int x3_54), (0, .ref (ad 0)), (1, .int x1), (2, .int x2)]) ex3_54 dX11_read_285 rfl (by decide) rfl 286 rfl ?_
      exact g_sub C [1, 2, 3, 0] rfl (kX11_read_L286 C hr (fun x1_59 x2_60 σ_61 h => by
          obtain ⟨x2_62, ex2_62, h⟩ := o_lt h
          refine g_iinc C (lv' := [(2, .int x2_62), (0, .ref (ad 0)), (1, .int x1_59)]) ex2_62 dX11_read_315 2 rfl (by decide) (by decide) rfl 318 rfl ?_
          refine g_goto C 242 dX11_read_318 (by decide) ?_
          exact g_sub C [1, 2, 0] rfl (ih x1_59 x2_62 σ_61 h)) n x1 x2 x3_54 σ_53 h)
set_option maxHeartbeats 4000000 in
set_option maxRecDepth 100000 in
theorem kX11_read_L206 (C : Ctx p l e (rmL 7) s m args below meth c D (tyz cI cJ cB cZ) (wM ad cI cJ cB cZ) A cX11_read 4 7 RX11) (hr : meth.sig.returnType = some .int) {res : Int32 × ST}   : ∀ (n : Nat) (x1 : Int32) (σ : ST), fX11_read_L206 n x1 σ = some res → G p l e (rmL 7) s m args below meth c (MQ below (Qi D (tyz cI cJ cB cZ) (wM ad cI cJ cB cZ) A res) args s 0 0 A) D (wM ad cI cJ cB cZ) A 4 σ 206 [(0, .ref (ad 0)), (1, .int x1)] [] := by
  intro n
  induction n with
  | zero => intro x1 σ h; have h : none = some res := h; cases h
  | succ n ih =>
    intro x1 σ h
    rw [fX11_read_L206] at h
    refine g_iload_n C dX11_read_206 rfl 1 rfl 207 rfl ?_
    refine g_bipush C (v := 7) dX11_read_207 (by decide) 209 rfl ?_
    refine g_icmp_ge C 327 dX11_read_209 (by decide) 212 rfl (fun c_37 => ?_) (fun c_37 => ?_)
    · have h := o_pos h c_37
      refine g_iconst C (v := 0) dX11_read_327 (by decide) 328 rfl ?_
      exact g_iret C hr dX11_read_328 h
    · have h := o_neg h c_37
      refine g_aload_n C dX11_read_212 rfl 0 rfl 213 rfl ?_
      refine wgX11_122_0 C dX11_read_213 216 rfl ?_
      refine g_iload_n C dX11_read_216 rfl 1 rfl 217 rfl ?_
      refine g_iconst C (v := -1) dX11_read_217 (by decide) 218 rfl ?_
      obtain ⟨c_38, h⟩ := o_chk h
      obtain ⟨σ_39, eσ_39, h⟩ := o_lt h
      refine wtM_35 C eσ_39 c_38 dX11_read_218 219 rfl ?_
      refine g_aload_n C dX11_read_219 rfl 0 rfl 220 rfl ?_
      refine wgX11_125_0 C dX11_read_220 223 rfl ?_
      refine g_iload_n C dX11_read_223 rfl 1 rfl 224 rfl ?_
      refine g_iconst C (v := 0) dX11_read_224 (by decide) 225 rfl ?_
      obtain ⟨c_40, h⟩ := o_chk h
      obtain ⟨σ_41, eσ_41, h⟩ := o_lt h
      refine wtM_36 C eσ_41 c_40 dX11_read_225 226 rfl ?_
      refine g_aload_n C dX11_read_226 rfl 0 rfl 227 rfl ?_
      refine wgX11_128_0 C dX11_read_227 230 rfl ?_
      refine g_iload_n C dX11_read_230 rfl 1 rfl 231 rfl ?_
      refine g_iconst C (v := 0) dX11_read_231 (by decide) 232 rfl ?_
      obtain ⟨c_42, h⟩ := o_chk h
      obtain ⟨σ_43, eσ_43, h⟩ := o_lt h
      refine wtM_37 C eσ_43 c_42 dX11_read_232 233 rfl ?_
      refine g_aload_n C dX11_read_233 rfl 0 rfl 234 rfl ?_
      refine wgX11_119_0 C dX11_read_234 237 rfl ?_
      refine g_iload_n C dX11_read_237 rfl 1 rfl 238 rfl ?_
      refine g_iload_n C dX11_read_238 rfl 1 rfl 239 rfl ?_
      obtain ⟨c_44, h⟩ := o_chk h
      obtain ⟨σ_45, eσ_45, h⟩ := o_lt h
      refine wtM_34 C eσ_45 c_44 dX11_read_239 240 rfl ?_
      refine g_iconst C (v := 0) dX11_read_240 (by decide) 241 rfl ?_
      obtain ⟨x2_46, ex2_46, h⟩ := o_lt h
      refine g_istore_n C (lv' := [(2, .int x2_46), (0, .ref (ad 0)), (1, .int x1)]) ex2_46 dX11_read_241 rfl (by decide) rfl 242 rfl ?_
      exact g_sub C [1, 2, 0] rfl (kX11_read_L242 C hr (fun x1_63 σ_64 h => by
          obtain ⟨x1_65, ex1_65, h⟩ := o_lt h
          refine g_iinc C (lv' := [(1, .int x1_65), (0, .ref (ad 0))]) ex1_65 dX11_read_321 1 rfl (by decide) (by decide) rfl 324 rfl ?_
          refine g_goto C 206 dX11_read_324 (by decide) ?_
          exact g_sub C [1, 0] rfl (ih x1_65 σ_64 h)) n x1 x2_46 σ_45 h)
set_option maxHeartbeats 4000000 in
set_option maxRecDepth 100000 in
theorem kX11_read {l : Launch} {D : va_G} {ad : Nat → Nat} {cI cJ cB cZ : ClassId}  {n : Nat}  {σ : ST} {res : Int32 × ST} (h : fX11_read n σ = some res) : CMi l D (tyz cI cJ cB cZ) (wM ad cI cJ cB cZ) 7 yX11_read cX11_read 4 (some .int) [.ref (ad 0)] σ res := by
  refine cmi_body (own := RX11) (lv := [(0, .ref (ad 0))]) (by decide) rfl (wM_addr _ _ _ _ _) (Nat.le_of_ble_eq_true rfl) rfl (fun p e s m args below meth c A C hr => ?_)
  unfold fX11_read at h
  refine g_aload_n C dX11_read_0 rfl 0 rfl 1 rfl ?_
  refine g_aload_n C dX11_read_1 rfl 0 rfl 2 rfl ?_
  refine wgX11_171_0 C dX11_read_2 5 rfl ?_
  obtain ⟨σ_1, eσ_1, h⟩ := o_lt h
  refine wpX11_178_0 C eσ_1 dX11_read_5 8 rfl ?_
  refine g_iconst C (v := 0) dX11_read_8 (by decide) 9 rfl ?_
  obtain ⟨x1_2, ex1_2, h⟩ := o_lt h
  refine g_istore_n C (lv' := [(1, .int x1_2), (0, .ref (ad 0))]) ex1_2 dX11_read_9 rfl (by decide) rfl 10 rfl ?_
  exact g_sub C [1, 0] rfl (kX11_read_L10 C hr (fun σ_8 h => by
      refine g_aload_n C dX11_read_36 rfl 0 rfl 37 rfl ?_
      refine g_iconst C (v := 0) dX11_read_37 (by decide) 38 rfl ?_
      obtain ⟨σ_9, eσ_9, h⟩ := o_lt h
      refine wpX11_171_0 C eσ_9 dX11_read_38 41 rfl ?_
      refine g_aload_n C dX11_read_41 rfl 0 rfl 42 rfl ?_
      obtain ⟨q_10, hq_10, h⟩ := o_bind h
      refine wcX11_228_M_0 C (kX11_cut hq_10) (by decide) (Nat.le_of_ble_eq_true rfl) dX11_read_42 45 rfl ?_
      refine g_aload_n C dX11_read_45 rfl 0 rfl 46 rfl ?_
      refine g_iconst C (v := 0) dX11_read_46 (by decide) 47 rfl ?_
      obtain ⟨σ_11, eσ_11, h⟩ := o_lt h
      refine wpX11_207_0 C eσ_11 dX11_read_47 50 rfl ?_
      refine g_aload_n C dX11_read_50 rfl 0 rfl 51 rfl ?_
      refine g_iconst C (v := 0) dX11_read_51 (by decide) 52 rfl ?_
      obtain ⟨σ_12, eσ_12, h⟩ := o_lt h
      refine wpX11_231_0 C eσ_12 dX11_read_52 55 rfl ?_
      refine g_aload_n C dX11_read_55 rfl 0 rfl 56 rfl ?_
      refine g_iconst C (v := 0) dX11_read_56 (by decide) 57 rfl ?_
      obtain ⟨σ_13, eσ_13, h⟩ := o_lt h
      refine wpX11_204_0 C eσ_13 dX11_read_57 60 rfl ?_
      refine g_aload_n C dX11_read_60 rfl 0 rfl 61 rfl ?_
      refine g_iconst C (v := 0) dX11_read_61 (by decide) 62 rfl ?_
      obtain ⟨σ_14, eσ_14, h⟩ := o_lt h
      refine wpX11_213_0 C eσ_14 dX11_read_62 65 rfl ?_
      refine g_aload_n C dX11_read_65 rfl 0 rfl 66 rfl ?_
      refine g_iconst C (v := 1) dX11_read_66 (by decide) 67 rfl ?_
      refine g_aload_n C dX11_read_67 rfl 0 rfl 68 rfl ?_
      refine wgX11_234_0 C dX11_read_68 71 rfl ?_
      refine g_isub C dX11_read_71 72 rfl ?_
      obtain ⟨σ_15, eσ_15, h⟩ := o_lt h
      refine wpX11_237_0 C eσ_15 dX11_read_72 75 rfl ?_
      refine g_aload_n C dX11_read_75 rfl 0 rfl 76 rfl ?_
      refine wgX11_40_0 C dX11_read_76 79 rfl ?_
      refine g_aload_n C dX11_read_79 rfl 0 rfl 80 rfl ?_
      refine wgX11_237_0 C dX11_read_80 83 rfl ?_
      refine g_iconst C (v := 0) dX11_read_83 (by decide) 84 rfl ?_
      obtain ⟨c_16, h⟩ := o_chk h
      obtain ⟨σ_17, eσ_17, h⟩ := o_lt h
      refine wtM_8 C eσ_17 c_16 dX11_read_84 85 rfl ?_
      refine g_aload_n C dX11_read_85 rfl 0 rfl 86 rfl ?_
      refine g_sipush C (v := 500) dX11_read_86 (by decide) 89 rfl ?_
      refine g_aload_n C dX11_read_89 rfl 0 rfl 90 rfl ?_
      refine wgX11_237_0 C dX11_read_90 93 rfl ?_
      refine g_imul C dX11_read_93 94 rfl ?_
      obtain ⟨σ_18, eσ_18, h⟩ := o_lt h
      refine wpX11_240_0 C eσ_18 dX11_read_94 97 rfl ?_
      exact g_sub C [0] rfl (kX11_read_L97 C hr (fun σ_23 h => by
          refine g_aload_n C dX11_read_119 rfl 0 rfl 120 rfl ?_
          refine g_aload_n C dX11_read_120 rfl 0 rfl 121 rfl ?_
          refine wgX11_204_0 C dX11_read_121 124 rfl ?_
          obtain ⟨j149, ej149, h⟩ := o_lt h
          have hj149 : ∀ (v_24 : Int32) (σ_25 : ST), j149 v_24 σ_25 = some res → G p l e (rmL 7) s m args below meth c (MQ below (Qi D (tyz cI cJ cB cZ) (wM ad cI cJ cB cZ) A res) args s 0 0 A) D (wM ad cI cJ cB cZ) A 4 σ_25 149 [(0, .ref (ad 0))] [.int v_24, .ref (ad 0)] := by
            intro v_24 σ_25 h
            rw [ej149] at h
            obtain ⟨σ_26, eσ_26, h⟩ := o_lt h
            refine wpX11_37_0 C eσ_26 dX11_read_149 152 rfl ?_
            refine g_aload_n C dX11_read_152 rfl 0 rfl 153 rfl ?_
            refine wgX11_204_0 C dX11_read_153 156 rfl ?_
            refine g_if_le C 164 dX11_read_156 (by decide) 159 rfl (fun c_27 => ?_) (fun c_27 => ?_)
            · have h := o_pos h c_27
              refine g_aload_n C dX11_read_164 rfl 0 rfl 165 rfl ?_
              refine wgX11_213_0 C dX11_read_165 168 rfl ?_
              refine g_if_le C 176 dX11_read_168 (by decide) 171 rfl (fun c_28 => ?_) (fun c_28 => ?_)
              · have h := o_pos h c_28
                refine g_aload_n C dX11_read_176 rfl 0 rfl 177 rfl ?_
                refine g_aload_n C dX11_read_177 rfl 0 rfl 178 rfl ?_
                refine wgX11_237_0 C dX11_read_178 181 rfl ?_
                obtain ⟨σ_29, eσ_29, h⟩ := o_lt h
                refine wpX11_234_0 C eσ_29 dX11_read_181 184 rfl ?_
                refine g_iconst C (v := 0) dX11_read_184 (by decide) 185 rfl ?_
                obtain ⟨x1_30, ex1_30, h⟩ := o_lt h
                refine g_istore_n C (lv' := [(1, .int x1_30), (0, .ref (ad 0))]) ex1_30 dX11_read_185 rfl (by decide) rfl 186 rfl ?_
                exact g_sub C [1, 0] rfl (kX11_read_L186 C hr (fun σ_35 h => by
                    refine g_iconst C (v := 0) dX11_read_204 (by decide) 205 rfl ?_
                    obtain ⟨x1_36, ex1_36, h⟩ := o_lt h
                    refine g_istore_n C (lv' := [(1, .int x1_36), (0, .ref (ad 0))]) ex1_36 dX11_read_205 rfl (by decide) rfl 206 rfl ?_
                    exact g_sub C [1, 0] rfl (kX11_read_L206 C hr  n x1_36 σ_35 h)) n x1_30 σ_29 h)
              · have h := o_neg h c_28
                refine g_aload_n C dX11_read_171 rfl 0 rfl 172 rfl ?_
                refine wgX11_213_0 C dX11_read_172 175 rfl ?_
                exact g_iret C hr dX11_read_175 h
            · have h := o_neg h c_27
              refine g_aload_n C dX11_read_159 rfl 0 rfl 160 rfl ?_
              refine wgX11_204_0 C dX11_read_160 163 rfl ?_
              exact g_iret C hr dX11_read_163 h
          refine g_if_le C 134 dX11_read_124 (by decide) 127 rfl (fun c_66 => ?_) (fun c_66 => ?_)
          · have h := o_pos h c_66
            refine g_aload_n C dX11_read_134 rfl 0 rfl 135 rfl ?_
            refine wgX11_213_0 C dX11_read_135 138 rfl ?_
            refine g_if_le C 148 dX11_read_138 (by decide) 141 rfl (fun c_67 => ?_) (fun c_67 => ?_)
            · have h := o_pos h c_67
              refine g_iconst C (v := -1) dX11_read_148 (by decide) 149 rfl ?_
              exact g_sub C [0] rfl (hj149 ((-1 : Int32)) σ_23 h)
            · have h := o_neg h c_67
              refine g_aload_n C dX11_read_141 rfl 0 rfl 142 rfl ?_
              refine wgX11_216_0 C dX11_read_142 145 rfl ?_
              refine g_goto C 149 dX11_read_145 (by decide) ?_
              exact g_sub C [0] rfl (hj149 (gI σ_23 9) σ_23 h)
          · have h := o_neg h c_66
            refine g_aload_n C dX11_read_127 rfl 0 rfl 128 rfl ?_
            refine wgX11_210_0 C dX11_read_128 131 rfl ?_
            refine g_goto C 149 dX11_read_131 (by decide) ?_
            exact g_sub C [0] rfl (hj149 (gI σ_23 7) σ_23 h)) n σ_18 h)) n x1_2 σ_1 h)
end WK
/-! X11_place public int place(); -/
def fX11_place  (σ : ST) : Option (Int32 × ST) :=
  (some (gI σ 10, σ))
section WK
variable {p : Program} {l : Launch} {e : Env} {R : Room} {s : State} {m : MethodId} {args : Array Value} {below : List Frame} {meth : Method} {c : Code} {Q : State → Prop}
variable {D : va_G} {ad : Nat → Nat} {cI cJ cB cZ : ClassId} {A : Nat → Prop} {cc : ByteArray} {nL lev : Nat}
variable {σ : ST} {pc : Nat} {lv : List (Nat × Value)} {st : List Value}
set_option maxHeartbeats 4000000 in
set_option maxRecDepth 100000 in
theorem kX11_place {l : Launch} {D : va_G} {ad : Nat → Nat} {cI cJ cB cZ : ClassId}   {σ : ST} {res : Int32 × ST} (h : fX11_place σ = some res) : CMi l D (tyz cI cJ cB cZ) (wM ad cI cJ cB cZ) 0 yX11_place cX11_place 1 (some .int) [.ref (ad 0)] σ res := by
  refine cmi_body (own := RX11) (lv := [(0, .ref (ad 0))]) (by decide) rfl (wM_addr _ _ _ _ _) (Nat.le_of_ble_eq_true rfl) rfl (fun p e s m args below meth c A C hr => ?_)
  unfold fX11_place at h
  refine g_aload_n C dX11_place_0 rfl 0 rfl 1 rfl ?_
  refine wgX11_37_0 C dX11_place_1 4 rfl ?_
  exact g_iret C hr dX11_place_4 h
end WK
/-! X11_isTable private static boolean isTable(int); -/
def fX11_isTable (x0 : Int32) (σ : ST) : Option (Int32 × ST) :=
  (if x0 < 0 then (some ((0 : Int32), σ)) else (if ((6 : Int32)) ≤ x0 then (some ((0 : Int32), σ)) else (some ((1 : Int32), σ))))
section WK
variable {p : Program} {l : Launch} {e : Env} {R : Room} {s : State} {m : MethodId} {args : Array Value} {below : List Frame} {meth : Method} {c : Code} {Q : State → Prop}
variable {D : va_G} {ad : Nat → Nat} {cI cJ cB cZ : ClassId} {A : Nat → Prop} {cc : ByteArray} {nL lev : Nat}
variable {σ : ST} {pc : Nat} {lv : List (Nat × Value)} {st : List Value}
set_option maxHeartbeats 4000000 in
set_option maxRecDepth 100000 in
theorem kX11_isTable {l : Launch} {D : va_G} {ad : Nat → Nat} {cI cJ cB cZ : ClassId}  {x0 : Int32} {σ : ST} {res : Int32 × ST} (h : fX11_isTable x0 σ = some res) : CMi l D (tyz cI cJ cB cZ) (wM ad cI cJ cB cZ) 0 yX11_isTable cX11_isTable 1 (some .boolean) [.int x0] σ res := by
  refine cmi_body (own := RX11) (lv := [(0, .int x0)]) (by decide) rfl (wM_addr _ _ _ _ _) (Nat.le_of_ble_eq_true rfl) rfl (fun p e s m args below meth c A C hr => ?_)
  unfold fX11_isTable at h
  refine g_iload_n C dX11_isTable_0 rfl 0 rfl 1 rfl ?_
  refine g_if_lt C 14 dX11_isTable_1 (by decide) 4 rfl (fun c_1 => ?_) (fun c_1 => ?_)
  · have h := o_pos h c_1
    refine g_iconst C (v := 0) dX11_isTable_14 (by decide) 15 rfl ?_
    exact g_zret C hr (by decide) dX11_isTable_15 h
  · have h := o_neg h c_1
    refine g_iload_n C dX11_isTable_4 rfl 0 rfl 5 rfl ?_
    refine g_bipush C (v := 6) dX11_isTable_5 (by decide) 7 rfl ?_
    refine g_icmp_ge C 14 dX11_isTable_7 (by decide) 10 rfl (fun c_2 => ?_) (fun c_2 => ?_)
    · have h := o_pos h c_2
      refine g_iconst C (v := 0) dX11_isTable_14 (by decide) 15 rfl ?_
      exact g_zret C hr (by decide) dX11_isTable_15 h
    · have h := o_neg h c_2
      refine g_iconst C (v := 1) dX11_isTable_10 (by decide) 11 rfl ?_
      refine g_goto C 15 dX11_isTable_11 (by decide) ?_
      exact g_zret C hr (by decide) dX11_isTable_15 h
end WK
/-! X11_span public boolean span(int, int, int); -/
def fX11_span (x1 : Int32) (x2 : Int32) (x3 : Int32) (σ : ST) : Option (Int32 × ST) :=
  (Option.bind (fX11_isTable x1 σ) (fun q_1 => (if q_1.1 = 0 then (some ((0 : Int32), q_1.2)) else (if x2 < 0 then (some ((0 : Int32), q_1.2)) else (if x3 < x2 then (some ((0 : Int32), q_1.2)) else (if x3 ≤ ((399 : Int32)) then (if ix x1 6 then (lt (stA q_1.2 22 x1 x2) (fun σ_7 => (if ix x1 6 then (lt (stA σ_7 23 x1 x3) (fun σ_9 => (some ((1 : Int32), σ_9)))) else none))) else none) else (some ((0 : Int32), q_1.2))))))))
section WK
variable {p : Program} {l : Launch} {e : Env} {R : Room} {s : State} {m : MethodId} {args : Array Value} {below : List Frame} {meth : Method} {c : Code} {Q : State → Prop}
variable {D : va_G} {ad : Nat → Nat} {cI cJ cB cZ : ClassId} {A : Nat → Prop} {cc : ByteArray} {nL lev : Nat}
variable {σ : ST} {pc : Nat} {lv : List (Nat × Value)} {st : List Value}
set_option maxHeartbeats 4000000 in
set_option maxRecDepth 100000 in
theorem kX11_span {l : Launch} {D : va_G} {ad : Nat → Nat} {cI cJ cB cZ : ClassId}  {x1 : Int32} {x2 : Int32} {x3 : Int32} {σ : ST} {res : Int32 × ST} (h : fX11_span x1 x2 x3 σ = some res) : CMi l D (tyz cI cJ cB cZ) (wM ad cI cJ cB cZ) 1 yX11_span cX11_span 4 (some .boolean) [.ref (ad 0), .int x1, .int x2, .int x3] σ res := by
  refine cmi_body (own := RX11) (lv := [(0, .ref (ad 0)), (1, .int x1), (2, .int x2), (3, .int x3)]) (by decide) rfl (wM_addr _ _ _ _ _) (Nat.le_of_ble_eq_true rfl) rfl (fun p e s m args below meth c A C hr => ?_)
  unfold fX11_span at h
  refine g_iload_n C dX11_span_0 rfl 1 rfl 1 rfl ?_
  obtain ⟨q_1, hq_1, h⟩ := o_bind h
  refine wcX11_292_M C (kX11_isTable hq_1) (by decide) (Nat.le_of_ble_eq_true rfl) dX11_span_1 4 rfl ?_
  refine g_if_eq C 23 dX11_span_4 (by decide) 7 rfl (fun c_2 => ?_) (fun c_2 => ?_)
  · have h := o_pos h c_2
    refine g_iconst C (v := 0) dX11_span_23 (by decide) 24 rfl ?_
    exact g_zret C hr (by decide) dX11_span_24 h
  · have h := o_neg h c_2
    refine g_iload_n C dX11_span_7 rfl 2 rfl 8 rfl ?_
    refine g_if_lt C 23 dX11_span_8 (by decide) 11 rfl (fun c_3 => ?_) (fun c_3 => ?_)
    · have h := o_pos h c_3
      refine g_iconst C (v := 0) dX11_span_23 (by decide) 24 rfl ?_
      exact g_zret C hr (by decide) dX11_span_24 h
    · have h := o_neg h c_3
      refine g_iload_n C dX11_span_11 rfl 2 rfl 12 rfl ?_
      refine g_iload_n C dX11_span_12 rfl 3 rfl 13 rfl ?_
      refine g_icmp_gt C 23 dX11_span_13 (by decide) 16 rfl (fun c_4 => ?_) (fun c_4 => ?_)
      · have h := o_pos h c_4
        refine g_iconst C (v := 0) dX11_span_23 (by decide) 24 rfl ?_
        exact g_zret C hr (by decide) dX11_span_24 h
      · have h := o_neg h c_4
        refine g_iload_n C dX11_span_16 rfl 3 rfl 17 rfl ?_
        refine g_sipush C (v := 399) dX11_span_17 (by decide) 20 rfl ?_
        refine g_icmp_le C 25 dX11_span_20 (by decide) 23 rfl (fun c_5 => ?_) (fun c_5 => ?_)
        · have h := o_pos h c_5
          refine g_aload_n C dX11_span_25 rfl 0 rfl 26 rfl ?_
          refine wgX11_83_0 C dX11_span_26 29 rfl ?_
          refine g_iload_n C dX11_span_29 rfl 1 rfl 30 rfl ?_
          refine g_iload_n C dX11_span_30 rfl 2 rfl 31 rfl ?_
          obtain ⟨c_6, h⟩ := o_chk h
          obtain ⟨σ_7, eσ_7, h⟩ := o_lt h
          refine wtM_22 C eσ_7 c_6 dX11_span_31 32 rfl ?_
          refine g_aload_n C dX11_span_32 rfl 0 rfl 33 rfl ?_
          refine wgX11_86_0 C dX11_span_33 36 rfl ?_
          refine g_iload_n C dX11_span_36 rfl 1 rfl 37 rfl ?_
          refine g_iload_n C dX11_span_37 rfl 3 rfl 38 rfl ?_
          obtain ⟨c_8, h⟩ := o_chk h
          obtain ⟨σ_9, eσ_9, h⟩ := o_lt h
          refine wtM_23 C eσ_9 c_8 dX11_span_38 39 rfl ?_
          refine g_iconst C (v := 1) dX11_span_39 (by decide) 40 rfl ?_
          exact g_zret C hr (by decide) dX11_span_40 h
        · have h := o_neg h c_5
          refine g_iconst C (v := 0) dX11_span_23 (by decide) 24 rfl ?_
          exact g_zret C hr (by decide) dX11_span_24 h
end WK
