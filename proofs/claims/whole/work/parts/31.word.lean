section WR2
variable {p : Program} {l : Launch} {e : Env} {R : Room} {s : State} {m : MethodId} {args : Array Value} {below : List Frame} {meth : Method} {c : Code} {Q : State → Prop}
variable {D : va_G} {ad : Nat → Nat} {cI cJ cB cZ : ClassId} {A : Nat → Prop} {cc : ByteArray} {nL lev : Nat}
variable {σ : ST} {pc : Nat} {lv : List (Nat × Value)} {st : List Value}

end WR2
/-! X11_word -/
def fX11_word (x0 : Int32) (x1 : Int32) (x2 : Int32) (x3 : Int32) (x4 : Int32) (x5 : Int32) (σ : ST) : Option (Int64 × ST) :=
  (Option.bind (fX11_more ((0 : Int64)) x0 σ) (fun q_1 => (Option.bind (fX11_more q_1.1 x1 q_1.2) (fun q_2 => (Option.bind (fX11_more q_2.1 x2 q_2.2) (fun q_3 => (Option.bind (fX11_more q_3.1 x3 q_3.2) (fun q_4 => (Option.bind (fX11_more q_4.1 x4 q_4.2) (fun q_5 => (Option.bind (fX11_more q_5.1 x5 q_5.2) (fun q_6 => (some (q_6.1, q_6.2))))))))))))))
section WK
variable {p : Program} {l : Launch} {e : Env} {R : Room} {s : State} {m : MethodId} {args : Array Value} {below : List Frame} {meth : Method} {c : Code} {Q : State → Prop}
variable {D : va_G} {ad : Nat → Nat} {cI cJ cB cZ : ClassId} {A : Nat → Prop} {cc : ByteArray} {nL lev : Nat}
variable {σ : ST} {pc : Nat} {lv : List (Nat × Value)} {st : List Value}
set_option maxHeartbeats 4000000 in
set_option maxRecDepth 100000 in
theorem kX11_word {l : Launch} {D : va_G} {ad : Nat → Nat} {cI cJ cB cZ : ClassId}  {x0 : Int32} {x1 : Int32} {x2 : Int32} {x3 : Int32} {x4 : Int32} {x5 : Int32} {σ : ST} {res : Int64 × ST} (h : fX11_word x0 x1 x2 x3 x4 x5 σ = some res) : CMl l D (tyz cI cJ cB cZ) (wM ad cI cJ cB cZ) 2 yX11_word cX11_word 6 (some .long) [.int x0, .int x1, .int x2, .int x3, .int x4, .int x5] σ res := by
  refine cml_body (own := RX11) (lv := [(0, .int x0), (1, .int x1), (2, .int x2), (3, .int x3), (4, .int x4), (5, .int x5)]) (by decide) rfl (wM_addr _ _ _ _ _) (Nat.le_of_ble_eq_true rfl) rfl (fun p e s m args below meth c A C hr => ?_)
  unfold fX11_word at h
  refine g_lconst C (v := 0) dX11_word_0 (by decide) 1 rfl ?_
  refine g_iload_n C dX11_word_1 rfl 0 rfl 2 rfl ?_
  obtain ⟨q_1, hq_1, h⟩ := o_bind h
  refine wcX11_187_M C (kX11_more hq_1) (by decide) (Nat.le_of_ble_eq_true rfl) dX11_word_2 5 rfl ?_
  refine g_iload_n C dX11_word_5 rfl 1 rfl 6 rfl ?_
  obtain ⟨q_2, hq_2, h⟩ := o_bind h
  refine wcX11_187_M C (kX11_more hq_2) (by decide) (Nat.le_of_ble_eq_true rfl) dX11_word_6 9 rfl ?_
  refine g_iload_n C dX11_word_9 rfl 2 rfl 10 rfl ?_
  obtain ⟨q_3, hq_3, h⟩ := o_bind h
  refine wcX11_187_M C (kX11_more hq_3) (by decide) (Nat.le_of_ble_eq_true rfl) dX11_word_10 13 rfl ?_
  refine g_iload_n C dX11_word_13 rfl 3 rfl 14 rfl ?_
  obtain ⟨q_4, hq_4, h⟩ := o_bind h
  refine wcX11_187_M C (kX11_more hq_4) (by decide) (Nat.le_of_ble_eq_true rfl) dX11_word_14 17 rfl ?_
  refine g_iload C dX11_word_17 4 rfl 19 rfl ?_
  obtain ⟨q_5, hq_5, h⟩ := o_bind h
  refine wcX11_187_M C (kX11_more hq_5) (by decide) (Nat.le_of_ble_eq_true rfl) dX11_word_19 22 rfl ?_
  refine g_iload C dX11_word_22 5 rfl 24 rfl ?_
  obtain ⟨q_6, hq_6, h⟩ := o_bind h
  refine wcX11_187_M C (kX11_more hq_6) (by decide) (Nat.le_of_ble_eq_true rfl) dX11_word_24 27 rfl ?_
  exact g_lret C hr dX11_word_27 h
end WK
