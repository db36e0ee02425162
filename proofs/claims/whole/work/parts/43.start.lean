/-! THE CLAIM OUT OF ONE WALK OF THE LAW'S BODY. Your part is whole_start (and what it stands on); all else here is the same for every law, but numbers. -/
def R_law : String := "DawnHouseLaw"
def lw_P (b : Addr) (xs : List Int32) (args : Array Value) (s : State) : Prop := args = #[.ref b] ∧ s.IntsAt b xs ∧ xs.length ≤ 3072 ∧ (Jvm.Cond.and given_1 narrow_1).before args s = true
def lw_Q (_ : Array Value) (s : State) (o : Outcome) (t : State) : Prop := o = .returned (some (.int 1)) ∧ Framed s o t [] 600000 7302250
def lw_Z (below : List Frame) (a : Array Value) (s : State) : State → Prop := fun t => ∃ o, t.status = .running ∧ Ended t below o ∧ lw_Q a s o t
/-- the law's own end, with 1 on the stack, nothing written that was there before, its room as the claim has it -/
theorem lw_ret {p : Program} {l : Launch} {e : Env} {s : State} {m : MethodId} {below : List Frame} {meth : Method} {c : Code} {b : Nat} (hx : p.tables.exec = Jvm.exec) (hb : c.code = code) (hr : meth.sig.returnType = ret) (hlocks : meth.locks = false) {pc : Nat} {H : Heap} {ls : Array Slot} (hdg : decode code pc = .ok (.ireturn, 1)) : W p l e room_1 s m #[Value.ref b] below meth c H [] 600000 7302250 (lw_Z below #[Value.ref b] s) (F0 m pc ls [.int 1]) := by
  intro T hT X
  obtain ⟨fs, hret, hrun, hended, hW, hframe⟩ := X.leave (v := some (.int 1)) (hlocks := hlocks) (fun h => by rw [hr] at h; cases h)
  have hmeth' : T.vm.method? m = some meth := X.method'
  refine ⟨T.setFrames fs, ?_, .returned (some (.int 1)), hrun, hended, rfl, ⟨_, rfl⟩, hW, hframe⟩
  jvm_step X.here [X.here.top, hx, hb, hdg, hmeth', hr, ret, narrow_b1]
  (try refine ⟨rfl, ?_⟩); (try refine ⟨rfl, ?_⟩)
  first | (intro acts; rw [hret _ acts rfl rfl rfl]) | rw [hret _ _ rfl rfl rfl]
  exact Steps.refl _
/-- what holds at the law's entry: the machine, the code, the tables' words (any of lw_tbl by 'hts w (by decide +kernel)'), the script of L ints xs at the cell b, what the Statement gives of the start (any of its parts by flat_of_before) -/
def lw_At (p : Program) (s : State) (m : MethodId) (meth : Method) (c : Code) (b L : Nat) (xs : Nat → Int32) : Prop :=
  p.tables.exec = Jvm.exec ∧ c.code = code ∧ meth.sig.returnType = ret ∧ c.maxLocals = 4 ∧ s.vm.findClass R_law = some m.cls ∧ (∀ w ∈ lw_tbl, w.before #[Value.ref b] s = true) ∧ va_X b L xs s s.heap ∧ b < s.heap.size ∧ meth.locks = false ∧ (Jvm.Cond.and given_1 narrow_1).before #[Value.ref b] s = true
theorem inX0_ : ∀ w ∈ u_ws RX0 TX0 3, w ∈ lw_tbl := fun w h => wsL_law_in w (inlX0 w h)
theorem inX1_ : ∀ w ∈ u_ws RX1 TX1 15, w ∈ lw_tbl := fun w h => wsL_law_in w (inlX1 w h)
theorem inX2_ : ∀ w ∈ u_ws RX2 TX2 7, w ∈ lw_tbl := fun w h => wsL_law_in w (inlX2 w h)
theorem inX3_ : ∀ w ∈ u_ws RX3 TX3 8, w ∈ lw_tbl := fun w h => wsL_law_in w (inlX3 w h)
theorem inX4_ : ∀ w ∈ u_ws RX4 TX4 13, w ∈ lw_tbl := fun w h => wsL_law_in w (inlX4 w h)
theorem inX5_ : ∀ w ∈ u_ws RX5 TX5 8, w ∈ lw_tbl := fun w h => wsL_law_in w (inlX5 w h)
theorem inX6_ : ∀ w ∈ u_ws RX6 TX6 2, w ∈ lw_tbl := fun w h => wsL_law_in w (inlX6 w h)
theorem inX7_ : ∀ w ∈ u_ws RX7 TX7 6, w ∈ lw_tbl := fun w h => wsL_law_in w (inlX7 w h)
theorem inX8_ : ∀ w ∈ u_ws RX8 TX8 5, w ∈ lw_tbl := fun w h => wsL_law_in w (inlX8 w h)
theorem inX9_ : ∀ w ∈ u_ws RX9 TX9 13, w ∈ lw_tbl := fun w h => wsL_law_in w (inlX9 w h)
theorem inX10_ : ∀ w ∈ u_ws RX10 TX10 8, w ∈ lw_tbl := fun w h => wsL_law_in w (inlX10 w h)
theorem inX11_ : ∀ w ∈ u_ws RX11 TX11 68, w ∈ lw_tbl := fun w h => wsL_law_in w (inlX11 w h)
theorem ty_of {s : State} {args : Array Value} {ty : FieldType} (h : (Cond.arrayClass ty).before args s = true) (hp : refKind ty = false) : ∃ cA : ClassId, ArrOfT s cA ty ∧ va_RA s cA ty := by
  obtain ⟨cA, kA, comp, hf, hk, hkind⟩ := Cond.arrayClass_spec h
  refine ⟨cA, fun n z => ⟨fun k h => (by cases h), kA, hk, comp, hkind⟩, ?_⟩
  cases ty with
  | object C => exact Bool.noConfusion (show true = false from hp)
  | _ => exact hf
theorem apart_addr {w1 w2 w1' w2' : va_W} (e1 : w1.map (fun x => x.1) = w1'.map (fun x => x.1)) (e2 : w2.map (fun x => x.1) = w2'.map (fun x => x.1)) (h : ∀ (i j : Nat) (p q : Nat × va_E), w1[i]? = some p → w2[j]? = some q → p.1 ≠ q.1) : ∀ (i j : Nat) (p q : Nat × va_E), w1'[i]? = some p → w2'[j]? = some q → p.1 ≠ q.1 := by
  have key : ∀ {a b : va_W}, a.map (fun x => x.1) = b.map (fun x => x.1) → ∀ (k : Nat) (q : Nat × va_E), b[k]? = some q → ∃ q0, a[k]? = some q0 ∧ q0.1 = q.1 := by
    intro a b e k q hq
    have h1 : (b.map (fun x => x.1))[k]? = some q.1 := by rw [List.getElem?_map, hq]; rfl
    rw [← e, List.getElem?_map] at h1
    cases hk : a[k]? with
    | none => rw [hk] at h1; cases h1
    | some q0 => rw [hk] at h1; exact ⟨q0, rfl, Option.some.inj h1⟩
  intro i j p q hp hq
  obtain ⟨p0, a1, b1⟩ := key e1 i p hp
  obtain ⟨q0, a2, b2⟩ := key e2 j q hq
  rw [← b1, ← b2]
  exact h i j p0 q0 a1 a2
set_option maxHeartbeats 4000000 in
set_option maxRecDepth 100000 in
theorem whole_start_of {Rel : Nat → ST → ST → Prop} (hSim : Sim Rel) {p : Program} {e : Env} {s : State} {m : MethodId} {below : List Frame} {meth : Method} {c : Code} (l : Launch) {b L : Nat} {xs : Nat → Int32} (hL : L ≤ 3072) (C0 : lw_At p s m meth c b L xs) : W p l e room_1 s m #[Value.ref b] below meth c s.heap [] 0 0 (lw_Z below #[Value.ref b] s) (entryFrame m ([Value.ref b] : List Value).toArray 4) := by
  obtain ⟨hx, hb, hr, hml, hown, hts, hX, hbl, hlocks, hgv⟩ := id C0
  have hB : ∀ w ∈ BIG, w.before #[Value.ref b] s = true := fun w hw => hts w (wsL_law_in w hw)
  have hN : Nst s := fun q hq => va_Nw.of rfl (hts _ (nest_in q hq))
  have hA : ∀ q : Nat, s.heap.size ≤ q → (fun q : Nat => s.heap.size ≤ q) q := fun _ h => h
  obtain ⟨c0, i0, hKn0⟩ := u_known (C := RX0) (T := TX0) (N := 3) (n := 3) hts inX0_ (hts (.instantiable RX0 3) (wsL_law_in _ (inr_5 _ (List.mem_of_getElem? (i := 1) rfl))))
  obtain ⟨c1, i1, hKn1⟩ := u_known (C := RX1) (T := TX1) (N := 15) (n := 15) hts inX1_ (hts (.instantiable RX1 15) (wsL_law_in _ (inr_2 _ (List.mem_of_getElem? (i := 20) rfl))))
  obtain ⟨c2, i2, hKn2⟩ := u_known (C := RX2) (T := TX2) (N := 7) (n := 7) hts inX2_ (hts (.instantiable RX2 7) (wsL_law_in _ (inr_1 _ (List.mem_of_getElem? (i := 21) rfl))))
  obtain ⟨c3, i3, hKn3⟩ := u_known (C := RX3) (T := TX3) (N := 8) (n := 8) hts inX3_ (hts (.instantiable RX3 8) (wsL_law_in _ (inr_2 _ (List.mem_of_getElem? (i := 12) rfl))))
  obtain ⟨c4, i4, hKn4⟩ := u_known (C := RX4) (T := TX4) (N := 13) (n := 13) hts inX4_ (hts (.instantiable RX4 13) (wsL_law_in _ (inr_2 _ (List.mem_of_getElem? (i := 0) rfl))))
  obtain ⟨c5, i5, hKn5⟩ := u_known (C := RX5) (T := TX5) (N := 8) (n := 8) hts inX5_ (hts (.instantiable RX5 8) (wsL_law_in _ (inr_2 _ (List.mem_of_getElem? (i := 5) rfl))))
  obtain ⟨c6, i6, hKn6⟩ := u_known (C := RX6) (T := TX6) (N := 2) (n := 2) hts inX6_ (hts (.instantiable RX6 2) (wsL_law_in _ (inr_1 _ (List.mem_of_getElem? (i := 13) rfl))))
  obtain ⟨c7, i7, hKn7⟩ := u_known (C := RX7) (T := TX7) (N := 6) (n := 6) hts inX7_ (hts (.instantiable RX7 6) (wsL_law_in _ (inr_1 _ (List.mem_of_getElem? (i := 17) rfl))))
  obtain ⟨c8, i8, hKn8⟩ := u_known (C := RX8) (T := TX8) (N := 5) (n := 5) hts inX8_ (hts (.instantiable RX8 5) (wsL_law_in _ (inr_2 _ (List.mem_of_getElem? (i := 9) rfl))))
  obtain ⟨c9, i9, hKn9⟩ := u_known (C := RX9) (T := TX9) (N := 13) (n := 13) hts inX9_ (hts (.instantiable RX9 13) (wsL_law_in _ (inr_2 _ (List.mem_of_getElem? (i := 16) rfl))))
  obtain ⟨c10, i10, hKn10⟩ := u_known (C := RX10) (T := TX10) (N := 8) (n := 8) hts inX10_ (hts (.instantiable RX10 8) (wsL_law_in _ (inr_1 _ (List.mem_of_getElem? (i := 1) rfl))))
  obtain ⟨c11, i11, hKn11⟩ := u_known (C := RX11) (T := TX11) (N := 68) (n := 68) hts inX11_ (hts (.instantiable RX11 68) (wsL_law_in _ (inr_1 _ (List.mem_of_getElem? (i := 4) rfl))))
  obtain ⟨dC, dI, hKc⟩ : ∃ (dC : Nat → ClassId) (dI : Nat → Nat → Nat), ∀ (k : Nat) (q : vw_C), vwCl[k]? = some q → u_Kn s q.1 q.2.1 q.2.2 (dC k) (dI k) := by
    refine ⟨fun k => if k = 0 then c0 else if k = 1 then c1 else if k = 2 then c2 else if k = 3 then c3 else if k = 4 then c4 else if k = 5 then c5 else if k = 6 then c6 else if k = 7 then c7 else if k = 8 then c8 else if k = 9 then c9 else if k = 10 then c10 else c11, fun k => if k = 0 then i0 else if k = 1 then i1 else if k = 2 then i2 else if k = 3 then i3 else if k = 4 then i4 else if k = 5 then i5 else if k = 6 then i6 else if k = 7 then i7 else if k = 8 then i8 else if k = 9 then i9 else if k = 10 then i10 else i11, ?_⟩
    intro k q hq
    match k, hq with
    | 0, hq => cases hq; exact hKn0
    | 1, hq => cases hq; exact hKn1
    | 2, hq => cases hq; exact hKn2
    | 3, hq => cases hq; exact hKn3
    | 4, hq => cases hq; exact hKn4
    | 5, hq => cases hq; exact hKn5
    | 6, hq => cases hq; exact hKn6
    | 7, hq => cases hq; exact hKn7
    | 8, hq => cases hq; exact hKn8
    | 9, hq => cases hq; exact hKn9
    | 10, hq => cases hq; exact hKn10
    | 11, hq => cases hq; exact hKn11
    | k + 12, hq => simp [vwCl] at hq
  obtain ⟨cI, hI1, hI2⟩ := ty_of (ty := .int) (hB _ (inr_3 _ (List.mem_of_getElem? (i := 9) rfl))) rfl
  obtain ⟨cJ, hJ1, hJ2⟩ := ty_of (ty := .long) (hB _ (inr_3 _ (List.mem_of_getElem? (i := 12) rfl))) rfl
  obtain ⟨cB, hB1, hB2⟩ := ty_of (ty := .byte) (hB _ (inr_3 _ (List.mem_of_getElem? (i := 2) rfl))) rfl
  obtain ⟨cZ, hZ1, hZ2⟩ := ty_of (ty := .boolean) (hB _ (inr_8 _ (List.mem_of_getElem? (i := 3) rfl))) rfl
  have hK : va_K (dC, dI) vwCl (tyz cI cJ cB cZ) s := ⟨hKc, fun k q h => by
    match k, h with
    | 0, h => cases h; exact ⟨hI1, hI2⟩
    | 1, h => cases h; exact ⟨hJ1, hJ2⟩
    | 2, h => cases h; exact ⟨hB1, hB2⟩
    | 3, h => cases h; exact ⟨hZ1, hZ2⟩
    | k + 4, h => simp [tyz] at h⟩
  have hS : va_S (fun q : Nat => s.heap.size ≤ q) s.heap s.heap [] := va_S.rf
  have hP : va_P (dC, dI) vwCl [] s.heap := fun k q h => by simp at h
  have hD : va_D (fun q : Nat => s.heap.size ≤ q) [] := ⟨fun i j p q h => by simp at h, fun k q h => by simp at h⟩
  have hl := lv_entry ([.ref b]) (n := 4) (Nat.le_of_ble_eq_true rfl)
  rw [lg_entry_eq]
  generalize (lg_sl ([.ref b]) ++ List.replicate (4 - (lg_sl ([.ref b])).length) Slot.unset).toArray = ls at hl ⊢
  have hl : lv_has ls 4 [(0, .ref b)] := hl
  refine va_new (ci := 10) (fs := [.null, .null, .null, .null, .null, .null, .null, .null]) (C := RX10) (T := TX10) (N := 8) hx hb hts inX10_ tyX10 tyX10_ok hown (hB _ (inr_1 _ (List.mem_of_getElem? (i := 0) rfl))) (hB _ (inr_1 _ (List.mem_of_getElem? (i := 1) rfl))) (hB _ (inr_1 _ (List.mem_of_getElem? (i := 2) rfl))) hK hP hD hS hA rfl (fun j hj => match j, hj with | 0, _ => rfl | 1, _ => rfl | 2, _ => rfl | 3, _ => rfl | 4, _ => rfl | 5, _ => rfl | 6, _ => rfl | 7, _ => rfl | k + 8, h => absurd h (by omega)) (Nat.le_of_ble_eq_true rfl) (Nat.le_of_ble_eq_true rfl) dL_law_0 (fun q0 H hP hD hS => ?_)
  have hP : va_P (dC, dI) vwCl [(q0, .inr (10, [.null, .null, .null, .null, .null, .null, .null, .null]))] H := hP
  have hD : va_D (fun q : Nat => s.heap.size ≤ q) [(q0, .inr (10, [.null, .null, .null, .null, .null, .null, .null, .null]))] := hD
  refine lv_dup hx hb dL_law_3 rfl ?_
  have hFc : ∀ q, va_A [(q0, .inr (10, [.null, .null, .null, .null, .null, .null, .null, .null]))] H.size q → s.heap.size ≤ q := fun q hq => by
    rcases hq with ⟨k, e, h⟩ | h
    · exact hD.2 k (q, e) h
    · exact Nat.le_trans hS.1 h
  refine va_callv (va_runI (As := []) (rest := [.ref q0]) ⟨hx, hb, hml, hown, hB⟩ (knX10_init (h0 := q0) (cI := cI) (cJ := cJ) (cB := cB) (cZ := cZ) H.size) (cwI 0 hB (big_consB (inr_1 _ (List.mem_of_getElem? (i := 8) rfl))) rfl rfl rfl (hB _ (inr_1 _ (List.mem_of_getElem? (i := 2) rfl))) (hB _ (inr_1 _ (List.mem_of_getElem? (i := 6) rfl))) (hB _ (inr_1 _ (List.mem_of_getElem? (i := 7) rfl))) rfl (by decide +kernel) ⟨by simp only [rmN, room_1]; omega, by simp only [rmN, room_1]; omega⟩) ⟨pn_blind, fun U hU hW => ⟨rfl, by rw [hU], by rw [hU]; exact hP, va_K.moved hW.alike hK, hD.weaken (fun _ _ _ _ => trivial), fun z hz => va_Nw.warmM hW (hN z hz)⟩⟩ rfl rfl hl.1 rfl (lv_room (Nat.le_of_ble_eq_true rfl)) dL_law_4 ⟨Nat.le_of_ble_eq_true rfl, Nat.le_of_ble_eq_true rfl⟩) hS (fun q _ h => hFc q h) hFc (fun u t H1 locs1 ht hvm hw hB1 hz hk hS => ?_)
  obtain ⟨hP1, hK1, hD1⟩ := hB1
  rw [ht] at hP1
  have hPX : va_P (dC, dI) vwCl (wX (fun k => if k = 0 then q0 else u k) cI cJ cB cZ sX0) H1 := hP1
  have hDX : va_D (fun q : Nat => s.heap.size ≤ q) (wX (fun k => if k = 0 then q0 else u k) cI cJ cB cZ sX0) := hD1.weaken (fun _ _ _ h => hFc _ h)
  clear hP1 hD1 hK1 hP hD
  generalize had : (fun k => if k = 0 then q0 else u k) = ad at hPX hDX
  have ha0 : ad 0 = q0 := by rw [← had]; rfl
  refine lv_astore_n (lv' := [(1, .ref q0), (0, .ref b)]) hx hb dL_law_7 rfl hl (by decide) rfl (fun ls hl => ?_)
  refine va_new (ci := 11) (fs := [.int 0, .null, .int 0, .null, .int 0, .null, .null, .null, .null, .null, .int 0, .int 0, .int 0, .int 0, .int 0, .int 0, .int 0, .int 0, .int 0, .int 0, .null, .null, .null, .null, .null, .null, .null, .null, .null, .null, .null, .int 0, .null, .null, .int 0, .int 0, .null, .int 0, .null, .null, .null, .null, .null, .null, .null, .null, .null, .int 0, .null, .null, .int 0, .int 0, .null, .null, .null, .null, .null, .null, .null, .null, .null, .null, .null, .null, .null, .null, .null, .null]) (C := RX11) (T := TX11) (N := 68) hx hb hts inX11_ tyX11 tyX11_ok hown (hB _ (inr_1 _ (List.mem_of_getElem? (i := 3) rfl))) (hB _ (inr_1 _ (List.mem_of_getElem? (i := 4) rfl))) (hB _ (inr_1 _ (List.mem_of_getElem? (i := 5) rfl))) hK hPX hDX hS hA rfl (fun j hj => match j, hj with | 0, _ => rfl | 1, _ => rfl | 2, _ => rfl | 3, _ => rfl | 4, _ => rfl | 5, _ => rfl | 6, _ => rfl | 7, _ => rfl | 8, _ => rfl | 9, _ => rfl | 10, _ => rfl | 11, _ => rfl | 12, _ => rfl | 13, _ => rfl | 14, _ => rfl | 15, _ => rfl | 16, _ => rfl | 17, _ => rfl | 18, _ => rfl | 19, _ => rfl | 20, _ => rfl | 21, _ => rfl | 22, _ => rfl | 23, _ => rfl | 24, _ => rfl | 25, _ => rfl | 26, _ => rfl | 27, _ => rfl | 28, _ => rfl | 29, _ => rfl | 30, _ => rfl | 31, _ => rfl | 32, _ => rfl | 33, _ => rfl | 34, _ => rfl | 35, _ => rfl | 36, _ => rfl | 37, _ => rfl | 38, _ => rfl | 39, _ => rfl | 40, _ => rfl | 41, _ => rfl | 42, _ => rfl | 43, _ => rfl | 44, _ => rfl | 45, _ => rfl | 46, _ => rfl | 47, _ => rfl | 48, _ => rfl | 49, _ => rfl | 50, _ => rfl | 51, _ => rfl | 52, _ => rfl | 53, _ => rfl | 54, _ => rfl | 55, _ => rfl | 56, _ => rfl | 57, _ => rfl | 58, _ => rfl | 59, _ => rfl | 60, _ => rfl | 61, _ => rfl | 62, _ => rfl | 63, _ => rfl | 64, _ => rfl | 65, _ => rfl | 66, _ => rfl | 67, _ => rfl | k + 68, h => absurd h (by omega)) (Nat.le_of_ble_eq_true rfl) (Nat.le_of_ble_eq_true rfl) dL_law_8 (fun q1 H2 hP2 hD2 hS => ?_)
  have hPX2 : va_P (dC, dI) vwCl (wX ad cI cJ cB cZ sX0) H2 := fun k q hk => hP2 k q (by rw [List.getElem?_append_left (List.getElem?_eq_some_iff.mp hk).1]; exact hk)
  have hq1 : (wX ad cI cJ cB cZ sX0 ++ [(q1, .inr (11, [.int 0, .null, .int 0, .null, .int 0, .null, .null, .null, .null, .null, .int 0, .int 0, .int 0, .int 0, .int 0, .int 0, .int 0, .int 0, .int 0, .int 0, .null, .null, .null, .null, .null, .null, .null, .null, .null, .null, .null, .int 0, .null, .null, .int 0, .int 0, .null, .int 0, .null, .null, .null, .null, .null, .null, .null, .null, .null, .int 0, .null, .null, .int 0, .int 0, .null, .null, .null, .null, .null, .null, .null, .null, .null, .null, .null, .null, .null, .null, .null, .null]))])[65]? = some (q1, .inr (11, [.int 0, .null, .int 0, .null, .int 0, .null, .null, .null, .null, .null, .int 0, .int 0, .int 0, .int 0, .int 0, .int 0, .int 0, .int 0, .int 0, .int 0, .null, .null, .null, .null, .null, .null, .null, .null, .null, .null, .null, .int 0, .null, .null, .int 0, .int 0, .null, .int 0, .null, .null, .null, .null, .null, .null, .null, .null, .null, .int 0, .null, .null, .int 0, .int 0, .null, .null, .null, .null, .null, .null, .null, .null, .null, .null, .null, .null, .null, .null, .null, .null])) := rfl
  have hP : va_P (dC, dI) vwCl [(q1, .inr (11, [.int 0, .null, .int 0, .null, .int 0, .null, .null, .null, .null, .null, .int 0, .int 0, .int 0, .int 0, .int 0, .int 0, .int 0, .int 0, .int 0, .int 0, .null, .null, .null, .null, .null, .null, .null, .null, .null, .null, .null, .int 0, .null, .null, .int 0, .int 0, .null, .int 0, .null, .null, .null, .null, .null, .null, .null, .null, .null, .int 0, .null, .null, .int 0, .int 0, .null, .null, .null, .null, .null, .null, .null, .null, .null, .null, .null, .null, .null, .null, .null, .null]))] H2 := hP2.sub [65] rfl
  have hD : va_D (fun q : Nat => s.heap.size ≤ q) [(q1, .inr (11, [.int 0, .null, .int 0, .null, .int 0, .null, .null, .null, .null, .null, .int 0, .int 0, .int 0, .int 0, .int 0, .int 0, .int 0, .int 0, .int 0, .int 0, .null, .null, .null, .null, .null, .null, .null, .null, .null, .null, .null, .int 0, .null, .null, .int 0, .int 0, .null, .int 0, .null, .null, .null, .null, .null, .null, .null, .null, .null, .int 0, .null, .null, .int 0, .int 0, .null, .null, .null, .null, .null, .null, .null, .null, .null, .null, .null, .null, .null, .null, .null, .null]))] := hD2.sub [65] rfl rfl
  have hap : ∀ (i : Nat) (pp : Nat × va_E), (wX ad cI cJ cB cZ sX0)[i]? = some pp → pp.1 ≠ q1 := fun i pp hi e1 => by
    have hlt := (List.getElem?_eq_some_iff.mp hi).1
    have h9 := hD2.1 i 65 pp _ (by rw [List.getElem?_append_left hlt]; exact hi) hq1 e1
    have h8 : (wX ad cI cJ cB cZ sX0).length = 65 := rfl
    omega
  refine lv_dup hx hb dL_law_11 rfl ?_
  have hFc : ∀ q, va_A [(q1, .inr (11, [.int 0, .null, .int 0, .null, .int 0, .null, .null, .null, .null, .null, .int 0, .int 0, .int 0, .int 0, .int 0, .int 0, .int 0, .int 0, .int 0, .int 0, .null, .null, .null, .null, .null, .null, .null, .null, .null, .null, .null, .int 0, .null, .null, .int 0, .int 0, .null, .int 0, .null, .null, .null, .null, .null, .null, .null, .null, .null, .int 0, .null, .null, .int 0, .int 0, .null, .null, .null, .null, .null, .null, .null, .null, .null, .null, .null, .null, .null, .null, .null, .null]))] H2.size q → s.heap.size ≤ q := fun q hq => by
    rcases hq with ⟨k, e, h⟩ | h
    · exact hD.2 k (q, e) h
    · exact Nat.le_trans hS.1 h
  refine va_callv (va_runI (As := []) (rest := [.ref q1]) ⟨hx, hb, hml, hown, hB⟩ (knX11_init (h0 := q1) (cI := cI) (cJ := cJ) (cB := cB) (cZ := cZ) H2.size) (cwI 0 hB (big_consB (inr_7 _ (List.mem_of_getElem? (i := 15) rfl))) rfl rfl rfl (hB _ (inr_1 _ (List.mem_of_getElem? (i := 5) rfl))) (hB _ (inr_7 _ (List.mem_of_getElem? (i := 13) rfl))) (hB _ (inr_7 _ (List.mem_of_getElem? (i := 14) rfl))) rfl (by decide +kernel) ⟨by simp only [rmN, room_1]; omega, by simp only [rmN, room_1]; omega⟩) ⟨pn_blind, fun U hU hW => ⟨rfl, by rw [hU], by rw [hU]; exact hP, va_K.moved hW.alike hK, hD.weaken (fun _ _ _ _ => trivial), fun z hz => va_Nw.warmM hW (hN z hz)⟩⟩ rfl rfl hl.1 rfl (lv_room (Nat.le_of_ble_eq_true rfl)) dL_law_12 ⟨Nat.le_of_ble_eq_true rfl, Nat.le_of_ble_eq_true rfl⟩) hS (fun q _ h => hFc q h) hFc (fun v t H3 locs3 ht hvm hw hB1 hz hk hS => ?_)
  obtain ⟨hP1, hK1, hD1⟩ := hB1
  rw [ht] at hP1
  have hPM : va_P (dC, dI) vwCl (wM (fun k => if k = 0 then q1 else v k) cI cJ cB cZ sM0) H3 := hP1
  have hDM0 : va_D (va_A [(q1, .inr (11, [.int 0, .null, .int 0, .null, .int 0, .null, .null, .null, .null, .null, .int 0, .int 0, .int 0, .int 0, .int 0, .int 0, .int 0, .int 0, .int 0, .int 0, .null, .null, .null, .null, .null, .null, .null, .null, .null, .null, .null, .int 0, .null, .null, .int 0, .int 0, .null, .int 0, .null, .null, .null, .null, .null, .null, .null, .null, .null, .int 0, .null, .null, .int 0, .int 0, .null, .null, .null, .null, .null, .null, .null, .null, .null, .null, .null, .null, .null, .null, .null, .null]))] H2.size) (wM (fun k => if k = 0 then q1 else v k) cI cJ cB cZ sM0) := hD1
  have hDM : va_D (fun q : Nat => s.heap.size ≤ q) (wM (fun k => if k = 0 then q1 else v k) cI cJ cB cZ sM0) := hDM0.weaken (fun _ _ _ h => hFc _ h)
  have hapX : ∀ (i j : Nat) (pp q : Nat × va_E), ([(q1, .inr (11, [.int 0, .null, .int 0, .null, .int 0, .null, .null, .null, .null, .null, .int 0, .int 0, .int 0, .int 0, .int 0, .int 0, .int 0, .int 0, .int 0, .int 0, .null, .null, .null, .null, .null, .null, .null, .null, .null, .null, .null, .int 0, .null, .null, .int 0, .int 0, .null, .int 0, .null, .null, .null, .null, .null, .null, .null, .null, .null, .int 0, .null, .null, .int 0, .int 0, .null, .null, .null, .null, .null, .null, .null, .null, .null, .null, .null, .null, .null, .null, .null, .null]))] : va_W)[i]? = some pp → (wX ad cI cJ cB cZ sX0)[j]? = some q → pp.1 ≠ q.1 := fun i j pp q hi hj => by
    have : i = 0 := by
      have := (List.getElem?_eq_some_iff.mp hi).1
      simp at this; exact this
    subst this
    cases hi
    exact fun e => hap j q hj e.symm
  have hPX3 : va_P (dC, dI) vwCl (wX ad cI cJ cB cZ sX0) H3 := apart_kept hPX2 hapX hk
  have hall : ∀ (i j : Nat) (pp q : Nat × va_E), (wX ad cI cJ cB cZ sX0)[i]? = some pp → (wM (fun k => if k = 0 then q1 else v k) cI cJ cB cZ sM0)[j]? = some q → pp.1 ≠ q.1 := fun i j pp q hi hj e1 => by
    rcases hDM0.2 j q hj with ⟨k2, e2, h2⟩ | h2
    · exact hapX k2 i _ pp h2 hi e1.symm
    · have h5 := (hPX2 i pp hi).lt
      omega
  clear hP1 hD1 hK1 hP hD hDM0 hP2 hD2
  generalize hbd : (fun k => if k = 0 then q1 else v k) = bd at hPM hDM hall
  have hb0 : bd 0 = q1 := by rw [← hbd]; rfl
  refine lv_astore_n (lv' := [(2, .ref q1), (1, .ref q0), (0, .ref b)]) hx hb dL_law_15 rfl hl (by decide) rfl (fun ls hl => ?_)
  refine lv_iconst (v := 0) hx hb dL_law_16 (by decide) ?_
  refine lv_istore_n (lv' := [(3, .int 0), (2, .ref q1), (1, .ref q0), (0, .ref b)]) hx hb dL_law_17 rfl hl (by decide) rfl (fun ls hl => ?_)
  have C : CtxL p s m #[Value.ref b] meth c (dC, dI) ad bd cI cJ cB cZ b L xs := ⟨⟨hx, hb, hml, hown, hB⟩, hK, hN, hX, hbl, fun σ => vaD_addr (wX_addr _ _ _ _ _ _ _) hDX, fun τ => vaD_addr (wM_addr _ _ _ _ _ _ _) hDM, fun σ τ => apart_addr (wX_addr _ _ _ _ _ _ _) (wM_addr _ _ _ _ _ _ _) hall⟩
  refine law_loop (Q := lw_Z below #[Value.ref b] s) C hSim hL (fun σ τ t => ?_) (L + 1) 0 sX0 sM0 hSim.1 (by omega) (by omega) _ _ ls hPX3 hPM hS ?_
  · intro H locs ls hP hM hS hl
    refine lv_iconst (v := 1) hx hb dL_law_823 (by decide) ?_
    refine va_forget (fun q hq => hS.2.2 q hq) ?_
    refine W.widen (k := 600000) (n := 7302250) (Nat.le_of_ble_eq_true rfl) (Nat.le_of_ble_eq_true rfl) ?_
    exact lw_ret hx hb hr hlocks dL_law_824
  · have h9 := lv_sub hl [3, 2, 1, 0] rfl
    rw [ha0, hb0]
    exact h9
