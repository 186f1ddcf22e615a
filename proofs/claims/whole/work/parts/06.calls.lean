/-! words -/
def zW : List Cond := lw_tbl.filter goodWord
theorem zW_good : ∀ w ∈ zW, ((w.onTables && w.keeps) = true ∨ ∃ ty, w = .arrayClass ty) := fun _ h => good_of_word (List.mem_filter.mp h).2
theorem zW_in {w : Cond} (h : w ∈ lw_tbl) (g : goodWord w = true) : w ∈ zW := List.mem_filter.mpr ⟨h, g⟩
def zisN : Cond → Bool
  | .fieldLinkNest .. => true
  | .methodLinkNest .. => true
  | _ => false
def zNl : List Cond := lw_tbl.filter zisN
def zNW (U : State) : Prop := ∀ w ∈ zNl, va_Nw w U
theorem zNW_warm {s U : State} (hW : s.WarmedH U.vm) (h : zNW s) : zNW U := fun w hw => by
  have h1 := (List.mem_filter.mp hw).2
  have h2 := h w hw
  cases w <;> first | exact va_Nw.warmF hW h2 | exact va_Nw.warmM hW h2 | (simp [zisN] at h1)
theorem zNW_same {u U : State} (e : u.vm = U.vm) (h : zNW u) : zNW U := fun w hw => by
  have h1 := (List.mem_filter.mp hw).2
  have h2 := h w hw
  cases w <;> first | exact va_Nw.same rfl e h2 | (simp [zisN] at h1)
theorem zN_in {w : Cond} (h : w ∈ lw_tbl) (g : zisN w = true) : w ∈ zNl := List.mem_filter.mpr ⟨h, g⟩
def zroom (d : Nat) : Room := { frames := d, cells := 0, slots := 0, locals := 40 * d }
def zws (y : MethodName) (cc : ByteArray) (n : Nat) (ret : Option FieldType) : List Cond := Cond.code y cc n ret :: zW
theorem zgi {Ts : List Cond} (hT : ∀ w ∈ zW, w ∈ Ts) {y : MethodName} {cc : ByteArray} {n : Nat} {ret : Option FieldType} (h : Cond.code y cc n ret ∈ zW) : GoodIn Ts (zws y cc n ret) := fun w hw => by
  rcases List.mem_cons.mp hw with rfl | hw
  · exact ⟨hT _ h, zW_good _ h⟩
  · exact ⟨hT _ hw, zW_good _ hw⟩
theorem zgV {own C : String} {index : Nat} {y : MethodName} {cc : ByteArray} {n : Nat} {ret : Option FieldType} (h1 : Cond.methodLink own index y ∈ zW) (h2 : Cond.instanceMethod y ∈ zW) (h3 : Cond.selects C y y ∈ zW) (h4 : Cond.initialized C ∈ zW) (h : Cond.code y cc n ret ∈ zW) : GoodIn zW (wsV own index C y (zws y cc n ret)) := fun w hw => by
  unfold wsV at hw
  rcases List.mem_append.mp hw with h9 | h9
  · simp only [List.mem_cons, List.not_mem_nil, or_false] at h9
    rcases h9 with rfl | rfl | rfl | rfl
    · exact ⟨h1, zW_good _ h1⟩
    · exact ⟨h2, zW_good _ h2⟩
    · exact ⟨h3, zW_good _ h3⟩
    · exact ⟨h4, zW_good _ h4⟩
  · exact zgi (fun _ h => h) h w h9
theorem zgS {own : String} {index : Nat} {y : MethodName} {cc : ByteArray} {n : Nat} {ret : Option FieldType} (h1 : Cond.methodLink own index y ∈ zW) (h2 : Cond.static y ∈ zW) (h3 : Cond.initialized y.cls ∈ zW) (h : Cond.code y cc n ret ∈ zW) : GoodIn zW (va_wsS own index y (zws y cc n ret)) := fun w hw => by
  unfold va_wsS at hw
  rcases List.mem_append.mp hw with h9 | h9
  · simp only [List.mem_cons, List.not_mem_nil, or_false] at h9
    rcases h9 with rfl | rfl | rfl
    · exact ⟨h1, zW_good _ h1⟩
    · exact ⟨h2, zW_good _ h2⟩
    · exact ⟨h3, zW_good _ h3⟩
  · exact zgi (fun _ h => h) h w h9
/-! the texts that the class names: strings 20 .. 23, outside the world; two statics of the JDK's -/
def zslen : List Nat := [4, 5, 3, 5]
def zsbyt : List (List Int32) := [[114, 111, 108, 108], [119, 114, 105, 116, 101], [114, 117, 98], [121, 101, 97, 114, 115]]
def zsix : List Nat := [19, 42, 47, 52]
def zstx : List String := ["roll", "write", "rub", "years"]
def zSI (ad : Nat × Nat → Nat) (A : Nat → Prop) (U : State) (H : Heap) : Prop := va_Z "jdk/internal/util/Preconditions" "SIOOBE_FORMATTER" "Ljava/util/function/BiFunction;" .null A U H ∨ va_Z "jdk/internal/util/Preconditions" "SIOOBE_FORMATTER" "Ljava/util/function/BiFunction;" (.ref (ad (30, 0))) A U H
def zE (ad : Nat × Nat → Nat) (A : Nat → Prop) (U : State) : Prop := vk_S 4 zslen zsbyt (fun i => ad (20 + i, 0)) (fun i => ad (20 + i, 1)) A U U.heap ∧ (∀ i, i < 4 → vk_R RX1 (zsix.getD i 0) (zstx.getD i "") (ad (20 + i, 0)) U) ∧ va_Z "java/lang/String" "COMPACT_STRINGS" "Z" (.int 1) A U U.heap ∧ zSI ad A U U.heap
theorem zE_same {ad : Nat × Nat → Nat} {A : Nat → Prop} {u U : State} (hv : U.vm = u.vm) (hh : U.heap = u.heap) (h : zE ad A u) : zE ad A U := by
  have hal : u.vm.Alike U.vm := by rw [hv]; exact Vm.Alike.refl _
  obtain ⟨h1, h2, h3, h4⟩ := h
  exact ⟨by rw [hh]; exact h1.moved hal, fun i hi => (h2 i hi).same hv, by rw [hh]; exact h3.moved hal, by
    rw [hh]
    rcases h4 with h | h
    · exact Or.inl (h.moved hal)
    · exact Or.inr (h.moved hal)⟩
theorem zE_go {ad : Nat × Nat → Nat} {A B : Nat → Prop} {s U : State} {H : Heap} {locs : List Loc} (hW : s.WarmedH U.vm) (hU : U.heap = H) (hS : va_S A s.heap H locs) (hB : ∀ q, B q → A q) (h : zE ad A s) : zE ad B U := by
  obtain ⟨h1, h2, h3, h4⟩ := h
  exact ⟨by rw [hU]; exact ((h1.kept hS.2.1).narrow hB).moved hW.alike, fun i hi => (h2 i hi).warm hW, by rw [hU]; exact ((h3.kept hS.2.1).narrow hB).moved hW.alike, by
    rw [hU]
    rcases h4 with h | h
    · exact Or.inl (((h.kept hS.2.1).narrow hB).moved hW.alike)
    · exact Or.inr (((h.kept hS.2.1).narrow hB).moved hW.alike)⟩
/-! contracts -/
def zPre (D : va_G) (cy : Nat → ClassId) (ad : Nat × Nat → Nat) (bl : zBl) (M : zM) (sz : Nat) (as : List zV) : Array Value → State → Prop := va_Pc (as.map (zcv ad)) (fun U => U.heap.size = sz ∧ va_P D vwCl (zwl cy ad bl M) U.heap ∧ va_K D vwCl (zty cy) U ∧ va_D (fun _ => True) (zwl cy ad bl M) ∧ zNW U ∧ zE ad (va_A (zwl cy ad bl M) sz) U)
theorem zPre_blind {D : va_G} {cy : Nat → ClassId} {ad : Nat × Nat → Nat} {bl : zBl} {M : zM} {sz : Nat} {as : List zV} : FrameBlind (zPre D cy ad bl M sz as) := fun a U g mk q => by
  obtain ⟨q0, q1, qP, qK, qD, qN, qE⟩ := q
  exact ⟨q0, q1, qP, va_K.moved (u := U) (U := U.calling g mk a) (Vm.Alike.refl U.vm) qK, qD, zNW_same (u := U) (U := U.calling g mk a) rfl qN, zE_same (u := U) (U := U.calling g mk a) rfl rfl qE⟩
def zQ (D : va_G) (cy : Nat → ClassId) (ad : Nat × Nat → Nat) (bl : zBl) (K : zK) (A : Nat → Prop) : Array Value → State → Outcome → State → Prop := fun _ st oc t => (∃ (r : Option zV) (M : zM), oc = .returned (r.map (zcv ad)) ∧ K r M ∧ va_P D vwCl (zwl cy ad bl M) t.heap) ∧ va_F A st t
def zMet (d : Nat) (y : MethodName) (cc : ByteArray) (n : Nat) (ret : Option FieldType) (sp : zSpec) : Prop := ∀ (l : Launch) (D : va_G) (cy : Nat → ClassId) (ad : Nat × Nat → Nat) (bl : zBl) (as : List zV) (M : zM) (K : zK) (sz : Nat), sp (zkd bl) as M K → Met l y (zws y cc n ret) (zroom d) (zPre D cy ad bl M sz as) (zQ D cy ad bl K (va_A (zwl cy ad bl M) sz)) 0 0 (va_A (zwl cy ad bl M) sz)
def zMS (d0 : Nat) (y : MethodName) (cc : ByteArray) (n : Nat) (ret : Option FieldType) (sp : zSpec) : Prop := ∀ d, d0 ≤ d → zMet d y cc n ret sp
/-- the receiver of a spec's call is an object of that kind -/
def zrv (sp : zSpec) (k n : Nat) : Prop := ∀ kd as M K, sp kd as M K → ∃ t as', as = zR t 0 :: as' ∧ kd t = k
theorem zmapO (ad : Nat × Nat → Nat) (r : Option zV) (rest : List zV) : (r.map (zcv ad)).toList ++ rest.map (zcv ad) = (r.toList ++ rest).map (zcv ad) := by cases r <;> rfl
section AMk
variable {p : Program} {l : Launch} {e : Env} {R : Room} {s : State} {m : MethodId} {args : Array Value} {below : List Frame} {meth : Method} {c : Code} {D : va_G} {cy : Nat → ClassId} {A : Nat → Prop} {ad : Nat × Nat → Nat} {bl : zBl} {nL ce so : Nat} {Qm : State → Prop} {cc : ByteArray} {pc : Nat}
theorem zfree {M : zM} {H : Heap} {locs : List Loc} (hD : va_D A (zwl cy ad bl M)) (hS : va_S A s.heap H locs) (hA : ∀ q, s.heap.size ≤ q → A q) : ∀ q, va_A (zwl cy ad bl M) H.size q → A q := by
  intro q h
  rcases h with ⟨k, x, h⟩ | h
  · exact hD.2 k (q, x) h
  · exact hA q (Nat.le_trans hS.1 h)
theorem zcall {H : Heap} {locs : List Loc} {arr : Array Slot} {st0 : List Value} {rest : List zV} {K : zK} {A1 free : Nat → Prop} {a : Array Value} (hr : va_Run p l e R s m args below meth c H locs ce so 0 0 (F0 m pc arr st0) (rest.map (zcv ad)) (zQ D cy ad bl K A1 a) free) (hS : va_S A s.heap H locs) (hA : ∀ q, A1 q → A q) (hf : ∀ q, free q → A q)
    (kk : ∀ (r : Option zV) (M' : zM) (H1 : Heap) (locs1 : List Loc), K r M' → va_P D vwCl (zwl cy ad bl M') H1 → va_S A s.heap H1 locs1 → W p l e R s m args below meth c H1 locs1 ce so Qm (F0 m (pc + 3) arr ((r.toList ++ rest).map (zcv ad)))) : W p l e R s m args below meth c H locs ce so Qm (F0 m pc arr st0) := by
  intro T hT X
  obtain ⟨v, st₀, t, T', L, h0, X', hL, e1, e2, ⟨⟨r, M', hv, hk, hp⟩, hz, hkeep⟩, st⟩ := hr T hT X
  cases hv
  rw [h0] at hz hkeep
  obtain ⟨t2, a1, b1⟩ := kk r M' T'.heap (locs ++ L) hk (by rw [e1]; exact hp)
    ⟨Nat.le_trans hS.1 (by rw [e1]; exact hz), fun q h1 h2 => by rw [e1, hkeep q (Nat.lt_of_lt_of_le h1 hS.1) (fun z => h2 (hA q z))]; exact hS.2.1 q h1 h2, fun q hq => by
      rcases List.mem_append.mp hq with h | h
      · exact hS.2.2 q h
      · exact hf _ (hL q h)⟩ T' rfl X'
  refine ⟨t2, st t2 ?_, b1⟩
  rw [← zmapO] at a1
  exact a1
/-- the facts in which a body runs -/
def zCtx (p : Program) (_l : Launch) (_e : Env) (R : Room) (s : State) (m : MethodId) (args : Array Value) (_below : List Frame) (_meth : Method) (c : Code) (D : va_G) (cy : Nat → ClassId) (A : Nat → Prop) (ad : Nat × Nat → Nat) (bl : zBl) (nL ce so : Nat) (_Qm : State → Prop) (own : String) (cc : ByteArray) (d : Nat) : Prop :=
  p.tables.exec = Jvm.exec ∧ c.code = cc ∧ c.maxLocals = nL ∧ s.vm.findClass own = some m.cls ∧ (∀ w ∈ zW, w.before args s = true) ∧ va_K D vwCl (zty cy) s ∧ (∀ M, va_D A (zwl cy ad bl M)) ∧ (∀ q, s.heap.size ≤ q → A q) ∧ zNW s ∧ zE ad A s ∧ ((d ≤ R.frames ∧ 40 * d ≤ R.locals) ∧ ce ≤ R.cells ∧ so ≤ R.slots)
theorem zrun_split {st : List zV} {n : Nat} (h : (Nat.ble n st.length && Nat.ble (zwt (st.drop n)) 8) = true) : st = ((st.take n).reverse).reverse ++ st.drop n ∧ (st.take n).reverse.length = n ∧ zwt (st.drop n) ≤ 8 := by
  rw [Bool.and_eq_true] at h
  refine ⟨by rw [List.reverse_reverse, List.take_append_drop], ?_, Nat.le_of_ble_eq_true h.2⟩
  rw [List.length_reverse, List.length_take]
  have := Nat.le_of_ble_eq_true h.1
  omega
theorem zroomW {pc : Nat} {arr : Array Slot} {st0 : List Value} {rest : List zV} (h : zwt rest ≤ 8) : 2 * (F0 m pc arr st0).monitorRoom + ((rest.map (zcv ad)).map fun v => v.category).sum ≤ 8 := lv_room (by rw [zwt_eq]; exact h)
theorem ok_callS {own : String} {d index n maxL : Nat} {y : MethodName} {bytes : ByteArray} {ret : Option FieldType} {sp : zSpec}  (C0 : zCtx p l e R s m args below meth c D cy A ad bl nL ce so Qm own cc (d + 1)) (hM : zMet d y bytes maxL ret sp) (hn0 : maxL ≤ 21) (hcode : Cond.code y bytes maxL ret ∈ zW) (hlink : Cond.methodLink own index y ∈ zW) (hst : Cond.static y ∈ zW) (hini : Cond.initialized y.cls ∈ zW) (hd : y.cls ≠ "java/lang/invoke/MethodHandle" ∧ y.cls ≠ "java/lang/invoke/VarHandle" ∧ (parseMethodDescriptor y.desc).map (fun d => d.parameters.length) = some n) (hdg : decode cc pc = .ok (.invokestatic index, 3)) : zOk p l e R s m args below meth c D cy A ad bl nL ce so Qm pc (zt_call (zkd bl) sp n (pc + 3)) := by
  intro X hX ls st M h H locs arr hn hP hS hl
  obtain ⟨hx, hb, hml, hown, hts, hK, hD, hA0, hN, hE, ⟨hR1, hR2⟩, hc1, hc2⟩ := C0
  unfold zt_call at h
  split at h
  · rename_i hq
    obtain ⟨g1, g2, g3⟩ := zrun_split hq
    have hst9 : (F0 m pc arr (st.map (zcv ad))).stack = (((st.take n).reverse).map (zcv ad)).reverse ++ ((st.drop n).map (zcv ad)) := by
      show st.map (zcv ad) = _
      conv => lhs; rw [g1]
      simp [List.map_append]
    exact zcall (rest := st.drop n) (va_runS (As := ((st.take n).reverse).map (zcv ad)) ⟨hx, hb, hml, hown, hts⟩ (hM l D cy ad bl _ M _ H.size h) (va_cwS n hts (zgS hlink hst hini hcode) rfl rfl rfl hd ⟨hR1, by show 8 + (maxL + 11) + 40 * d ≤ R.locals; omega⟩) ⟨zPre_blind, fun U hU hW => ⟨rfl, by rw [hU], by rw [hU]; exact hP, va_K.moved hW.alike hK, (hD M).weaken (fun _ _ _ _ => trivial), zNW_warm hW hN, zE_go hW hU hS (zfree (hD M) hS hA0) hE⟩⟩ rfl (by rw [List.length_map]; exact g2) hl.1 hst9 (zroomW g3) hdg ⟨hc1, hc2⟩) hS (zfree (hD M) hS hA0) (zfree (hD M) hS hA0) (fun r M' H1 locs1 hr hP1 hS1 => hX _ _ _ _ hr H1 locs1 arr hn hP1 hS1 hl)
  · exact h.elim
theorem ok_callV {own : String} {d index n maxL : Nat} {y : MethodName} {bytes : ByteArray} {ret : Option FieldType} {sp : zSpec} {k ci : Nat} {C : String} {T : u_T} {N : Nat} (hcl : zcls k ci C T N) (hrv : zrv sp k n) (C0 : zCtx p l e R s m args below meth c D cy A ad bl nL ce so Qm own cc (d + 1)) (hM : zMet d y bytes maxL ret sp) (hn0 : maxL ≤ 21) (hcode : Cond.code y bytes maxL ret ∈ zW) (hlink : Cond.methodLink own index y ∈ zW) (hin : Cond.instanceMethod y ∈ zW) (hse : Cond.selects C y y ∈ zW) (hini : Cond.initialized C ∈ zW) (hd : y.cls = C ∧ y.cls ≠ "java/lang/invoke/MethodHandle" ∧ y.cls ≠ "java/lang/invoke/VarHandle" ∧ (parseMethodDescriptor y.desc).map (fun d => d.parameters.length) = some n) (hdg : decode cc pc = .ok (.invokevirtual index, 3)) : zOk p l e R s m args below meth c D cy A ad bl nL ce so Qm pc (zt_call (zkd bl) sp (n + 1) (pc + 3)) := by
  intro X hX ls st M h H locs arr hn hP hS hl
  obtain ⟨hx, hb, hml, hown, hts, hK, hD, hA0, hN, hE, ⟨hR1, hR2⟩, hc1, hc2⟩ := C0
  unfold zt_call at h
  split at h
  · rename_i hq
    obtain ⟨g1, g2, g3⟩ := zrun_split hq
    obtain ⟨t, as', e1, hk⟩ := hrv _ _ _ _ h
    rw [e1] at g1 g2
    obtain ⟨q0, fl, -, -, -, hq0⟩ := zobj (cy := cy) (ad := ad) hcl hk
    have hlen : as'.length = n := by simpa using g2
    have hst : (F0 m pc arr (st.map (zcv ad))).stack = (as'.map (zcv ad)).reverse ++ .ref (ad (t, 0)) :: ((st.drop (n + 1)).map (zcv ad)) := by
      show st.map (zcv ad) = _
      conv => lhs; rw [g1]
      simp [List.map_append, zcv]
    rw [e1] at h
    exact zcall (rest := st.drop (n + 1)) (va_runV (C := C) (As := as'.map (zcv ad)) ⟨hx, hb, hml, hown, hts⟩ (hM l D cy ad bl (zR t 0 :: as') M _ H.size h) (cwV n hts (zgV hlink hin hse hini hcode) rfl rfl rfl hd ⟨hR1, by show 8 + (maxL + 11) + 40 * d ≤ R.locals; omega⟩) ⟨zPre_blind, va_recv hK hP hcl.1 (hq0 M), fun U hU hW => ⟨rfl, by rw [hU], by rw [hU]; exact hP, va_K.moved hW.alike hK, (hD M).weaken (fun _ _ _ _ => trivial), zNW_warm hW hN, zE_go hW hU hS (zfree (hD M) hS hA0) hE⟩⟩ rfl (by rw [List.length_map]; exact hlen) hl.1 hst (zroomW g3) hdg ⟨hc1, hc2⟩) hS (zfree (hD M) hS hA0) (zfree (hD M) hS hA0) (fun r M' H1 locs1 hr hP1 hS1 => hX _ _ _ _ hr H1 locs1 arr hn hP1 hS1 hl)
  · exact h.elim
theorem ok_callSN {own : String} {d index n maxL : Nat} {y : MethodName} {bytes : ByteArray} {ret : Option FieldType} {sp : zSpec} {host : String}  (C0 : zCtx p l e R s m args below meth c D cy A ad bl nL ce so Qm own cc (d + 1)) (hM : zMet d y bytes maxL ret sp) (hn0 : maxL ≤ 21) (hcode : Cond.code y bytes maxL ret ∈ zW) (hlink : Cond.methodLinkNest own index y host ∈ zNl) (hst : Cond.static y ∈ zW) (hini : Cond.initialized y.cls ∈ zW) (hd : y.cls ≠ "java/lang/invoke/MethodHandle" ∧ y.cls ≠ "java/lang/invoke/VarHandle" ∧ (parseMethodDescriptor y.desc).map (fun d => d.parameters.length) = some n) (hdg : decode cc pc = .ok (.invokestatic index, 3)) : zOk p l e R s m args below meth c D cy A ad bl nL ce so Qm pc (zt_call (zkd bl) sp n (pc + 3)) := by
  intro X hX ls st M h H locs arr hn hP hS hl
  obtain ⟨hx, hb, hml, hown, hts, hK, hD, hA0, hN, hE, ⟨hR1, hR2⟩, hc1, hc2⟩ := C0
  unfold zt_call at h
  split at h
  · rename_i hq
    obtain ⟨g1, g2, g3⟩ := zrun_split hq
    have hst9 : (F0 m pc arr (st.map (zcv ad))).stack = (((st.take n).reverse).map (zcv ad)).reverse ++ ((st.drop n).map (zcv ad)) := by
      show st.map (zcv ad) = _
      conv => lhs; rw [g1]
      simp [List.map_append]
    exact zcall (rest := st.drop n) (va_runSN (As := ((st.take n).reverse).map (zcv ad)) ⟨hx, hb, hml, hown, hts⟩ (hM l D cy ad bl _ M _ H.size h) (⟨va_cnB n hts (zgi (fun _ h => h) hcode) rfl rfl rfl (hN _ hlink) (hts _ hini) hd ⟨hR1, by show 8 + (maxL + 11) + 40 * d ≤ R.locals; omega⟩, hts _ hst, trivial⟩) ⟨zPre_blind, fun U hU hW => ⟨rfl, by rw [hU], by rw [hU]; exact hP, va_K.moved hW.alike hK, (hD M).weaken (fun _ _ _ _ => trivial), zNW_warm hW hN, zE_go hW hU hS (zfree (hD M) hS hA0) hE⟩⟩ rfl (by rw [List.length_map]; exact g2) hl.1 hst9 (zroomW g3) hdg ⟨hc1, hc2⟩) hS (zfree (hD M) hS hA0) (zfree (hD M) hS hA0) (fun r M' H1 locs1 hr hP1 hS1 => hX _ _ _ _ hr H1 locs1 arr hn hP1 hS1 hl)
  · exact h.elim
theorem ok_callVN {own : String} {d index n maxL : Nat} {y : MethodName} {bytes : ByteArray} {ret : Option FieldType} {sp : zSpec} {host : String} {k ci : Nat} {C : String} {T : u_T} {N : Nat} (hcl : zcls k ci C T N) (hrv : zrv sp k n) (C0 : zCtx p l e R s m args below meth c D cy A ad bl nL ce so Qm own cc (d + 1)) (hM : zMet d y bytes maxL ret sp) (hn0 : maxL ≤ 21) (hcode : Cond.code y bytes maxL ret ∈ zW) (hlink : Cond.methodLinkNest own index y host ∈ zNl) (hin : Cond.instanceMethod y ∈ zW) (hse : Cond.selects C y y ∈ zW) (hini : Cond.initialized y.cls ∈ zW) (hd : y.cls ≠ "java/lang/invoke/MethodHandle" ∧ y.cls ≠ "java/lang/invoke/VarHandle" ∧ (parseMethodDescriptor y.desc).map (fun d => d.parameters.length) = some n) (hdg : decode cc pc = .ok (.invokevirtual index, 3)) : zOk p l e R s m args below meth c D cy A ad bl nL ce so Qm pc (zt_call (zkd bl) sp (n + 1) (pc + 3)) := by
  intro X hX ls st M h H locs arr hn hP hS hl
  obtain ⟨hx, hb, hml, hown, hts, hK, hD, hA0, hN, hE, ⟨hR1, hR2⟩, hc1, hc2⟩ := C0
  unfold zt_call at h
  split at h
  · rename_i hq
    obtain ⟨g1, g2, g3⟩ := zrun_split hq
    obtain ⟨t, as', e1, hk⟩ := hrv _ _ _ _ h
    rw [e1] at g1 g2
    obtain ⟨q0, fl, -, -, -, hq0⟩ := zobj (cy := cy) (ad := ad) hcl hk
    have hlen : as'.length = n := by simpa using g2
    have hst : (F0 m pc arr (st.map (zcv ad))).stack = (as'.map (zcv ad)).reverse ++ .ref (ad (t, 0)) :: ((st.drop (n + 1)).map (zcv ad)) := by
      show st.map (zcv ad) = _
      conv => lhs; rw [g1]
      simp [List.map_append, zcv]
    rw [e1] at h
    exact zcall (rest := st.drop (n + 1)) (va_runVN (C := C) (As := as'.map (zcv ad)) ⟨hx, hb, hml, hown, hts⟩ (hM l D cy ad bl (zR t 0 :: as') M _ H.size h) (⟨va_cnB n hts (zgi (fun _ h => h) hcode) rfl rfl rfl (hN _ hlink) (hts _ hini) hd ⟨hR1, by show 8 + (maxL + 11) + 40 * d ≤ R.locals; omega⟩, hts _ hin, hts _ hse⟩) ⟨zPre_blind, va_recv hK hP hcl.1 (hq0 M), fun U hU hW => ⟨rfl, by rw [hU], by rw [hU]; exact hP, va_K.moved hW.alike hK, (hD M).weaken (fun _ _ _ _ => trivial), zNW_warm hW hN, zE_go hW hU hS (zfree (hD M) hS hA0) hE⟩⟩ rfl (by rw [List.length_map]; exact hlen) hl.1 hst (zroomW g3) hdg ⟨hc1, hc2⟩) hS (zfree (hD M) hS hA0) (zfree (hD M) hS hA0) (fun r M' H1 locs1 hr hP1 hS1 => hX _ _ _ _ hr H1 locs1 arr hn hP1 hS1 hl)
  · exact h.elim
end AMk
