section AMh
variable {p : Program} {l : Launch} {e : Env} {R : Room} {s : State} {m : MethodId} {args : Array Value} {below : List Frame} {meth : Method} {c : Code} {D : va_G} {cy : Nat → ClassId} {A : Nat → Prop} {ad : Nat × Nat → Nat} {bl : zBl} {nL ce so : Nat} {Qm : State → Prop} {cc : ByteArray} {pc : Nat}
/-- what a class's objects look like: place ci in the classes, its fields' table -/
def zcls (k ci : Nat) (C : String) (T : u_T) (N : Nat) : Prop := vwCl[ci]? = some (C, T, N) ∧ 0 < znc k ∧ ∀ t, ∃ fl, zshp k t 0 = .inr (.inl (ci, fl)) ∧ fl.length = N
theorem zobj {k ci : Nat} {C : String} {T : u_T} {N : Nat} (hc : zcls k ci C T N) {t : Nat} (hk : zkd bl t = k) : ∃ (q0 : Nat) (fl : List zV), zshp k t 0 = .inr (.inl (ci, fl)) ∧ fl.length = N ∧ (zsl bl)[q0]? = some ((t, 0), .inr (.inl (ci, fl))) ∧ ∀ M : zM, (zwl cy ad bl M)[q0]? = some (ad (t, 0), .inr (ci, fl.mapIdx (fun j v => zfv ad M (t, 0) j v))) := by
  obtain ⟨fl, h1, h2⟩ := hc.2.2 t
  have hm := zsl_mem (bl := bl) (t := t) (o := 0) hk hc.2.1
  rw [h1] at hm
  obtain ⟨q0, g1, g2⟩ := zwl_at (cy := cy) (ad := ad) hm
  exact ⟨q0, fl, h1, h2, g1, g2⟩
theorem zrow {t o : Nat} {q : Nat × Nat} (h : zar (zkd bl t) o = some q) : ∃ q0 : Nat, (zsl bl)[q0]? = some ((t, o), .inl q) ∧ ∀ M : zM, (zwl cy ad bl M)[q0]? = some (ad (t, o), .inl (cy q.1, q.2, .inl (M.1 t o))) := by
  obtain ⟨h1, h2⟩ := zar_at h t
  have hm := zsl_mem (bl := bl) (t := t) (o := o) rfl h1
  rw [h2] at hm
  exact zwl_at hm
theorem zfl_at {fl : List zV} {M : zM} {t j : Nat} {v : zV} (h : fl[j]? = some v) : (fl.mapIdx (fun j v => zfv ad M (t, 0) j v))[j]? = some (zfv ad M (t, 0) j v) := by
  rw [List.getElem?_mapIdx, h]; rfl
theorem zfl_setI {fl : List zV} {M : zM} {t j : Nat} {x : Int32} (h : fl[j]? = some (zI 0)) : (fl.mapIdx (fun j v => zfv ad M (t, 0) j v)).set j (.int x) = fl.mapIdx (fun j9 v9 => zfv ad (zmw M t 0 (upd (M.1 t 0) j x)) (t, 0) j9 v9) := by
  apply List.ext_getElem?
  intro i
  rw [List.getElem?_mapIdx]
  by_cases hi : j = i
  · subst hi
    rw [List.getElem?_set_self (by rw [List.length_mapIdx]; exact (List.getElem?_eq_some_iff.mp h).1), h]
    simp [zfv, zmw, upd]
  · rw [List.getElem?_set_ne hi, List.getElem?_mapIdx]
    cases hx : fl[i]? with
    | none => rfl
    | some v =>
      rcases v with y | y | y | y
      · have hi' : ¬ i = j := fun e => hi e.symm
        simp [zfv, zmw, upd, hi']
      · rfl
      · rfl
      · rfl
theorem zfl_setL {fl : List zV} {M : zM} {t j : Nat} {x : Int64} (h : fl[j]? = some (zL 0)) : (fl.mapIdx (fun j v => zfv ad M (t, 0) j v)).set j (.long x) = fl.mapIdx (fun j9 v9 => zfv ad (zml M t j x) (t, 0) j9 v9) := by
  apply List.ext_getElem?
  intro i
  rw [List.getElem?_mapIdx]
  by_cases hi : j = i
  · subst hi
    rw [List.getElem?_set_self (by rw [List.length_mapIdx]; exact (List.getElem?_eq_some_iff.mp h).1), h]
    simp [zfv, zml]
  · rw [List.getElem?_set_ne hi, List.getElem?_mapIdx]
    cases hx : fl[i]? with
    | none => rfl
    | some v =>
      rcases v with y | y | y | y
      · rfl
      · have hi' : ¬ i = j := fun e => hi e.symm
        simp [zfv, zml, hi']
      · rfl
      · rfl
/-- only cell 0 of a block is an object, so that a long field's change is seen there alone -/
theorem zshp_obj {k t o : Nat} {q : Nat × List zV} (h : zshp k t o = .inr (.inl q)) : o = 0 := by
  unfold zshp at h
  split at h <;> first | rfl | (simp at h)
theorem zce_ml1 {M : zM} {t j : Nat} {x : Int64} {r : Nat × Nat} {cs : zCS} (hr : r ≠ (t, 0)) (hm : (r, cs) ∈ zsl bl) : zce cy ad bl (zml M t j x) r cs = zce cy ad bl M r cs := by
  by_cases h1 : r.1 = t
  · rcases cs with q | o | u
    · rfl
    · obtain ⟨b, hb, hm⟩ := List.mem_flatMap.mp hm
      obtain ⟨o', ho', he⟩ := List.mem_map.mp hm
      have h2 : zshp b.2 b.1 o' = .inr (.inl o) := congrArg Prod.snd he
      have h3 : (b.1, o') = r := congrArg Prod.fst he
      have h4 := zshp_obj h2
      subst h4
      exact absurd (Prod.ext h1 (by rw [← h3])) hr
    · rfl
  · exact zce_ml r cs h1
theorem zwl_set2 {M M' : zM} (h : va_D A (zwl cy ad bl M)) {q0 : Nat} {r : Nat × Nat} {cs : zCS} (hq : (zsl bl)[q0]? = some (r, cs))
    (ho : ∀ (r' : Nat × Nat) (cs' : zCS), r' ≠ r → (r', cs') ∈ zsl bl → zce cy ad bl M' r' cs' = zce cy ad bl M r' cs') : (zwl cy ad bl M).set q0 (ad r, zce cy ad bl M' r cs) = zwl cy ad bl M' := by
  apply List.ext_getElem?
  intro k
  by_cases hk : q0 = k
  · subst hk
    have hlt : q0 < (zwl cy ad bl M).length := by unfold zwl; rw [List.length_map]; exact (List.getElem?_eq_some_iff.mp hq).1
    rw [List.getElem?_set_self hlt]
    unfold zwl; rw [List.getElem?_map, hq]; rfl
  · rw [List.getElem?_set_ne hk]
    unfold zwl
    rw [List.getElem?_map, List.getElem?_map]
    cases hx : (zsl bl)[k]? with
    | none => rfl
    | some x =>
      obtain ⟨r', cs'⟩ := x
      have hr : r' ≠ r := fun e => by subst e; exact hk (zsl_inj h hq hx)
      show some (ad r', zce cy ad bl M r' cs') = some (ad r', zce cy ad bl M' r' cs')
      rw [ho r' cs' hr (List.mem_of_getElem? hx)]
theorem ok_getR {k ci : Nat} {C : String} {T : u_T} {N : Nat} {own : String} {index j : Nat} {dt o : Nat} (hx : p.tables.exec = Jvm.exec) (hb : c.code = cc) {Ts : List Cond} (hts : ∀ w ∈ Ts, w.before args s = true) (hin : ∀ w ∈ u_ws C T N, w ∈ Ts) (hown : s.vm.findClass own = some m.cls) (hK : va_K D vwCl (zty cy) s) (hc : zcls k ci C T N) (hj : j < N) (hT : (T j).1 = C) (hf : ∀ t fl, zshp k t 0 = .inr (.inl (ci, fl)) → fl[j]? = some (zR (t + dt) o)) (hlink : (Cond.fieldLink own index C (T j).2.1 (T j).2.2.1).before args s = true) (hdg : decode cc pc = .ok (.getfield index, 3)) : zOk p l e R s m args below meth c D cy A ad bl nL ce so Qm pc (zt_getR (zkd bl) k dt o (pc + 3)) := by
  intro X hX ls st M h H locs arr hn hP hS hl
  unfold zt_getR at h
  split at h
  · rename_i t r
    obtain ⟨hk, h⟩ := h
    obtain ⟨q0, fl, h1, h2, -, hq⟩ := zobj (cy := cy) (ad := ad) hc hk
    exact va_get hx hb hts hin hown hK hP q0 (hq M) hc.1 j hj hlink (fun x9 h9 => by rw [hT] at h9; exact h9) (zfl_at (hf t fl h1)) hdg (hX _ _ _ _ h H locs arr hn hP hS hl)
  · exact h.elim
theorem ok_getI {k ci : Nat} {C : String} {T : u_T} {N : Nat} {own : String} {index j : Nat} (hx : p.tables.exec = Jvm.exec) (hb : c.code = cc) {Ts : List Cond} (hts : ∀ w ∈ Ts, w.before args s = true) (hin : ∀ w ∈ u_ws C T N, w ∈ Ts) (hown : s.vm.findClass own = some m.cls) (hK : va_K D vwCl (zty cy) s) (hc : zcls k ci C T N) (hj : j < N) (hT : (T j).1 = C) (hf : ∀ t fl, zshp k t 0 = .inr (.inl (ci, fl)) → fl[j]? = some (zI 0)) (hlink : (Cond.fieldLink own index C (T j).2.1 (T j).2.2.1).before args s = true) (hdg : decode cc pc = .ok (.getfield index, 3)) : zOk p l e R s m args below meth c D cy A ad bl nL ce so Qm pc (zt_getI (zkd bl) k j (pc + 3)) := by
  intro X hX ls st M h H locs arr hn hP hS hl
  unfold zt_getI at h
  split at h
  · rename_i t r
    obtain ⟨hk, h⟩ := h
    obtain ⟨q0, fl, h1, h2, -, hq⟩ := zobj (cy := cy) (ad := ad) hc hk
    exact va_get hx hb hts hin hown hK hP q0 (hq M) hc.1 j hj hlink (fun x9 h9 => by rw [hT] at h9; exact h9) (zfl_at (hf t fl h1)) hdg (hX _ _ _ _ h H locs arr hn hP hS hl)
  · exact h.elim
theorem ok_getL {k ci : Nat} {C : String} {T : u_T} {N : Nat} {own : String} {index j : Nat} (hx : p.tables.exec = Jvm.exec) (hb : c.code = cc) {Ts : List Cond} (hts : ∀ w ∈ Ts, w.before args s = true) (hin : ∀ w ∈ u_ws C T N, w ∈ Ts) (hown : s.vm.findClass own = some m.cls) (hK : va_K D vwCl (zty cy) s) (hc : zcls k ci C T N) (hj : j < N) (hT : (T j).1 = C) (hf : ∀ t fl, zshp k t 0 = .inr (.inl (ci, fl)) → fl[j]? = some (zL 0)) (hlink : (Cond.fieldLink own index C (T j).2.1 (T j).2.2.1).before args s = true) (hdg : decode cc pc = .ok (.getfield index, 3)) : zOk p l e R s m args below meth c D cy A ad bl nL ce so Qm pc (zt_getL (zkd bl) k j (pc + 3)) := by
  intro X hX ls st M h H locs arr hn hP hS hl
  unfold zt_getL at h
  split at h
  · rename_i t r
    obtain ⟨hk, h⟩ := h
    obtain ⟨q0, fl, h1, h2, -, hq⟩ := zobj (cy := cy) (ad := ad) hc hk
    exact va_get hx hb hts hin hown hK hP q0 (hq M) hc.1 j hj hlink (fun x9 h9 => by rw [hT] at h9; exact h9) (zfl_at (hf t fl h1)) hdg (hX _ _ _ _ h H locs arr hn hP hS hl)
  · exact h.elim
theorem ok_putI {k ci : Nat} {C : String} {T : u_T} {N : Nat} {own : String} {index j : Nat} (hx : p.tables.exec = Jvm.exec) (hb : c.code = cc) {Ts : List Cond} (hts : ∀ w ∈ Ts, w.before args s = true) (hin : ∀ w ∈ u_ws C T N, w ∈ Ts) (ty0 : Nat → FieldType) (hty : ∀ k, k < N → parseFieldDescriptor (T k).2.2.1 = some (ty0 k)) (hnm : ∀ a, a < N → ∀ b, b < N → a ≠ b → (T a).2.1 ≠ (T b).2.1) (hown : s.vm.findClass own = some m.cls) (hK : va_K D vwCl (zty cy) s) (hD : ∀ M, va_D A (zwl cy ad bl M)) (hc : zcls k ci C T N) (hj : j < N) (hT : (T j).1 = C) (hfin : (T j).2.2.2 = false) (hd : parseFieldDescriptor (T j).2.2.1 = some (.int)) (hf : ∀ t fl, zshp k t 0 = .inr (.inl (ci, fl)) → fl[j]? = some (zI 0)) (hlink : (Cond.fieldLink own index C (T j).2.1 (T j).2.2.1).before args s = true) (hdg : decode cc pc = .ok (.putfield index, 3)) : zOk p l e R s m args below meth c D cy A ad bl nL ce so Qm pc (zt_putI (zkd bl) k j (pc + 3)) := by
  intro X hX ls st M h H locs arr hn hP hS hl
  unfold zt_putI at h
  split at h
  · rename_i x t r
    obtain ⟨hk, h⟩ := h
    obtain ⟨q0, fl, h1, h2, hs0, hq⟩ := zobj (cy := cy) (ad := ad) hc hk
    have hset := zwl_set (M' := zmw M t 0 (upd (M.1 t 0) j x)) (hD M) hs0 (fun r' cs' hr => zce_mw r' cs' hr)
    refine va_put hx hb hts hin ty0 hty hnm hown hK hP (hD M) hS q0 (hq M) hc.1 j hj hlink (fun x9 h9 => by rw [hT] at h9; exact h9) hfin hd rfl rfl (by rw [List.length_mapIdx, h2]; exact hj) hdg (fun H1 locs1 hP1 hD1 hS1 => hX _ _ _ _ (h _ rfl) H1 locs1 arr hn ?_ hS1 hl)
    rw [← hset]
    have e9 : (fl.mapIdx (fun j v => zfv ad M (t, 0) j v)).set j (.int x) = fl.mapIdx (fun j9 v9 => zfv ad (zmw M t 0 (upd (M.1 t 0) j x)) (t, 0) j9 v9) := zfl_setI (hf t fl h1)
    rw [show zce cy ad bl (zmw M t 0 (upd (M.1 t 0) j x)) (t, 0) (.inr (.inl (ci, fl))) = .inr (ci, fl.mapIdx (fun j9 v9 => zfv ad (zmw M t 0 (upd (M.1 t 0) j x)) (t, 0) j9 v9)) from rfl, ← e9]
    exact hP1
  · exact h.elim
theorem ok_putL {k ci : Nat} {C : String} {T : u_T} {N : Nat} {own : String} {index j : Nat} (hx : p.tables.exec = Jvm.exec) (hb : c.code = cc) {Ts : List Cond} (hts : ∀ w ∈ Ts, w.before args s = true) (hin : ∀ w ∈ u_ws C T N, w ∈ Ts) (ty0 : Nat → FieldType) (hty : ∀ k, k < N → parseFieldDescriptor (T k).2.2.1 = some (ty0 k)) (hnm : ∀ a, a < N → ∀ b, b < N → a ≠ b → (T a).2.1 ≠ (T b).2.1) (hown : s.vm.findClass own = some m.cls) (hK : va_K D vwCl (zty cy) s) (hD : ∀ M, va_D A (zwl cy ad bl M)) (hc : zcls k ci C T N) (hj : j < N) (hT : (T j).1 = C) (hfin : (T j).2.2.2 = false) (hd : parseFieldDescriptor (T j).2.2.1 = some (.long)) (hf : ∀ t fl, zshp k t 0 = .inr (.inl (ci, fl)) → fl[j]? = some (zL 0)) (hlink : (Cond.fieldLink own index C (T j).2.1 (T j).2.2.1).before args s = true) (hdg : decode cc pc = .ok (.putfield index, 3)) : zOk p l e R s m args below meth c D cy A ad bl nL ce so Qm pc (zt_putL (zkd bl) k j (pc + 3)) := by
  intro X hX ls st M h H locs arr hn hP hS hl
  unfold zt_putL at h
  split at h
  · rename_i x t r
    obtain ⟨hk, h⟩ := h
    obtain ⟨q0, fl, h1, h2, hs0, hq⟩ := zobj (cy := cy) (ad := ad) hc hk
    have hset := zwl_set2 (M' := zml M t j x) (hD M) hs0 (fun r cs hr hm => zce_ml1 hr hm)
    refine va_put hx hb hts hin ty0 hty hnm hown hK hP (hD M) hS q0 (hq M) hc.1 j hj hlink (fun x9 h9 => by rw [hT] at h9; exact h9) hfin hd rfl rfl (by rw [List.length_mapIdx, h2]; exact hj) hdg (fun H1 locs1 hP1 hD1 hS1 => hX _ _ _ _ (h _ rfl) H1 locs1 arr hn ?_ hS1 hl)
    rw [← hset]
    have e9 : (fl.mapIdx (fun j v => zfv ad M (t, 0) j v)).set j (.long x) = fl.mapIdx (fun j9 v9 => zfv ad (zml M t j x) (t, 0) j9 v9) := zfl_setL (hf t fl h1)
    rw [show zce cy ad bl (zml M t j x) (t, 0) (.inr (.inl (ci, fl))) = .inr (ci, fl.mapIdx (fun j9 v9 => zfv ad (zml M t j x) (t, 0) j9 v9)) from rfl, ← e9]
    exact hP1
  · exact h.elim
theorem ok_getRN {k ci : Nat} {C : String} {T : u_T} {N : Nat} {own : String} {index j : Nat} {host : String} {dt o : Nat} (hx : p.tables.exec = Jvm.exec) (hb : c.code = cc) {Ts : List Cond} (hts : ∀ w ∈ Ts, w.before args s = true) (hin : ∀ w ∈ u_ws C T N, w ∈ Ts) (hown : s.vm.findClass own = some m.cls) (hK : va_K D vwCl (zty cy) s) (hc : zcls k ci C T N) (hj : j < N) (hT : (T j).1 = C) (hf : ∀ t fl, zshp k t 0 = .inr (.inl (ci, fl)) → fl[j]? = some (zR (t + dt) o)) (hlink : (Cond.fieldLinkNest own index C (T j).2.1 (T j).2.2.1 host).before args s = true) (hdg : decode cc pc = .ok (.getfield index, 3)) : zOk p l e R s m args below meth c D cy A ad bl nL ce so Qm pc (zt_getR (zkd bl) k dt o (pc + 3)) := by
  intro X hX ls st M h H locs arr hn hP hS hl
  unfold zt_getR at h
  split at h
  · rename_i t r
    obtain ⟨hk, h⟩ := h
    obtain ⟨q0, fl, h1, h2, -, hq⟩ := zobj (cy := cy) (ad := ad) hc hk
    exact va_getN hx hb hts hin hown hK hP q0 (hq M) hc.1 j hj hlink (fun x9 h9 => by rw [hT] at h9; exact h9) (zfl_at (hf t fl h1)) hdg (hX _ _ _ _ h H locs arr hn hP hS hl)
  · exact h.elim
theorem ok_getIN {k ci : Nat} {C : String} {T : u_T} {N : Nat} {own : String} {index j : Nat} {host : String} (hx : p.tables.exec = Jvm.exec) (hb : c.code = cc) {Ts : List Cond} (hts : ∀ w ∈ Ts, w.before args s = true) (hin : ∀ w ∈ u_ws C T N, w ∈ Ts) (hown : s.vm.findClass own = some m.cls) (hK : va_K D vwCl (zty cy) s) (hc : zcls k ci C T N) (hj : j < N) (hT : (T j).1 = C) (hf : ∀ t fl, zshp k t 0 = .inr (.inl (ci, fl)) → fl[j]? = some (zI 0)) (hlink : (Cond.fieldLinkNest own index C (T j).2.1 (T j).2.2.1 host).before args s = true) (hdg : decode cc pc = .ok (.getfield index, 3)) : zOk p l e R s m args below meth c D cy A ad bl nL ce so Qm pc (zt_getI (zkd bl) k j (pc + 3)) := by
  intro X hX ls st M h H locs arr hn hP hS hl
  unfold zt_getI at h
  split at h
  · rename_i t r
    obtain ⟨hk, h⟩ := h
    obtain ⟨q0, fl, h1, h2, -, hq⟩ := zobj (cy := cy) (ad := ad) hc hk
    exact va_getN hx hb hts hin hown hK hP q0 (hq M) hc.1 j hj hlink (fun x9 h9 => by rw [hT] at h9; exact h9) (zfl_at (hf t fl h1)) hdg (hX _ _ _ _ h H locs arr hn hP hS hl)
  · exact h.elim
theorem ok_getLN {k ci : Nat} {C : String} {T : u_T} {N : Nat} {own : String} {index j : Nat} {host : String} (hx : p.tables.exec = Jvm.exec) (hb : c.code = cc) {Ts : List Cond} (hts : ∀ w ∈ Ts, w.before args s = true) (hin : ∀ w ∈ u_ws C T N, w ∈ Ts) (hown : s.vm.findClass own = some m.cls) (hK : va_K D vwCl (zty cy) s) (hc : zcls k ci C T N) (hj : j < N) (hT : (T j).1 = C) (hf : ∀ t fl, zshp k t 0 = .inr (.inl (ci, fl)) → fl[j]? = some (zL 0)) (hlink : (Cond.fieldLinkNest own index C (T j).2.1 (T j).2.2.1 host).before args s = true) (hdg : decode cc pc = .ok (.getfield index, 3)) : zOk p l e R s m args below meth c D cy A ad bl nL ce so Qm pc (zt_getL (zkd bl) k j (pc + 3)) := by
  intro X hX ls st M h H locs arr hn hP hS hl
  unfold zt_getL at h
  split at h
  · rename_i t r
    obtain ⟨hk, h⟩ := h
    obtain ⟨q0, fl, h1, h2, -, hq⟩ := zobj (cy := cy) (ad := ad) hc hk
    exact va_getN hx hb hts hin hown hK hP q0 (hq M) hc.1 j hj hlink (fun x9 h9 => by rw [hT] at h9; exact h9) (zfl_at (hf t fl h1)) hdg (hX _ _ _ _ h H locs arr hn hP hS hl)
  · exact h.elim
theorem ok_putIN {k ci : Nat} {C : String} {T : u_T} {N : Nat} {own : String} {index j : Nat} {host : String} (hx : p.tables.exec = Jvm.exec) (hb : c.code = cc) {Ts : List Cond} (hts : ∀ w ∈ Ts, w.before args s = true) (hin : ∀ w ∈ u_ws C T N, w ∈ Ts) (ty0 : Nat → FieldType) (hty : ∀ k, k < N → parseFieldDescriptor (T k).2.2.1 = some (ty0 k)) (hnm : ∀ a, a < N → ∀ b, b < N → a ≠ b → (T a).2.1 ≠ (T b).2.1) (hown : s.vm.findClass own = some m.cls) (hK : va_K D vwCl (zty cy) s) (hD : ∀ M, va_D A (zwl cy ad bl M)) (hc : zcls k ci C T N) (hj : j < N) (hT : (T j).1 = C) (hfin : (T j).2.2.2 = false) (hd : parseFieldDescriptor (T j).2.2.1 = some (.int)) (hf : ∀ t fl, zshp k t 0 = .inr (.inl (ci, fl)) → fl[j]? = some (zI 0)) (hlink : (Cond.fieldLinkNest own index C (T j).2.1 (T j).2.2.1 host).before args s = true) (hdg : decode cc pc = .ok (.putfield index, 3)) : zOk p l e R s m args below meth c D cy A ad bl nL ce so Qm pc (zt_putI (zkd bl) k j (pc + 3)) := by
  intro X hX ls st M h H locs arr hn hP hS hl
  unfold zt_putI at h
  split at h
  · rename_i x t r
    obtain ⟨hk, h⟩ := h
    obtain ⟨q0, fl, h1, h2, hs0, hq⟩ := zobj (cy := cy) (ad := ad) hc hk
    have hset := zwl_set (M' := zmw M t 0 (upd (M.1 t 0) j x)) (hD M) hs0 (fun r' cs' hr => zce_mw r' cs' hr)
    refine va_putN hx hb hts hin ty0 hty hnm hown hK hP (hD M) hS q0 (hq M) hc.1 j hj hlink (fun x9 h9 => by rw [hT] at h9; exact h9) hfin hd rfl rfl (by rw [List.length_mapIdx, h2]; exact hj) hdg (fun H1 locs1 hP1 hD1 hS1 => hX _ _ _ _ (h _ rfl) H1 locs1 arr hn ?_ hS1 hl)
    rw [← hset]
    have e9 : (fl.mapIdx (fun j v => zfv ad M (t, 0) j v)).set j (.int x) = fl.mapIdx (fun j9 v9 => zfv ad (zmw M t 0 (upd (M.1 t 0) j x)) (t, 0) j9 v9) := zfl_setI (hf t fl h1)
    rw [show zce cy ad bl (zmw M t 0 (upd (M.1 t 0) j x)) (t, 0) (.inr (.inl (ci, fl))) = .inr (ci, fl.mapIdx (fun j9 v9 => zfv ad (zmw M t 0 (upd (M.1 t 0) j x)) (t, 0) j9 v9)) from rfl, ← e9]
    exact hP1
  · exact h.elim
theorem ok_putLN {k ci : Nat} {C : String} {T : u_T} {N : Nat} {own : String} {index j : Nat} {host : String} (hx : p.tables.exec = Jvm.exec) (hb : c.code = cc) {Ts : List Cond} (hts : ∀ w ∈ Ts, w.before args s = true) (hin : ∀ w ∈ u_ws C T N, w ∈ Ts) (ty0 : Nat → FieldType) (hty : ∀ k, k < N → parseFieldDescriptor (T k).2.2.1 = some (ty0 k)) (hnm : ∀ a, a < N → ∀ b, b < N → a ≠ b → (T a).2.1 ≠ (T b).2.1) (hown : s.vm.findClass own = some m.cls) (hK : va_K D vwCl (zty cy) s) (hD : ∀ M, va_D A (zwl cy ad bl M)) (hc : zcls k ci C T N) (hj : j < N) (hT : (T j).1 = C) (hfin : (T j).2.2.2 = false) (hd : parseFieldDescriptor (T j).2.2.1 = some (.long)) (hf : ∀ t fl, zshp k t 0 = .inr (.inl (ci, fl)) → fl[j]? = some (zL 0)) (hlink : (Cond.fieldLinkNest own index C (T j).2.1 (T j).2.2.1 host).before args s = true) (hdg : decode cc pc = .ok (.putfield index, 3)) : zOk p l e R s m args below meth c D cy A ad bl nL ce so Qm pc (zt_putL (zkd bl) k j (pc + 3)) := by
  intro X hX ls st M h H locs arr hn hP hS hl
  unfold zt_putL at h
  split at h
  · rename_i x t r
    obtain ⟨hk, h⟩ := h
    obtain ⟨q0, fl, h1, h2, hs0, hq⟩ := zobj (cy := cy) (ad := ad) hc hk
    have hset := zwl_set2 (M' := zml M t j x) (hD M) hs0 (fun r cs hr hm => zce_ml1 hr hm)
    refine va_putN hx hb hts hin ty0 hty hnm hown hK hP (hD M) hS q0 (hq M) hc.1 j hj hlink (fun x9 h9 => by rw [hT] at h9; exact h9) hfin hd rfl rfl (by rw [List.length_mapIdx, h2]; exact hj) hdg (fun H1 locs1 hP1 hD1 hS1 => hX _ _ _ _ (h _ rfl) H1 locs1 arr hn ?_ hS1 hl)
    rw [← hset]
    have e9 : (fl.mapIdx (fun j v => zfv ad M (t, 0) j v)).set j (.long x) = fl.mapIdx (fun j9 v9 => zfv ad (zml M t j x) (t, 0) j9 v9) := zfl_setL (hf t fl h1)
    rw [show zce cy ad bl (zml M t j x) (t, 0) (.inr (.inl (ci, fl))) = .inr (ci, fl.mapIdx (fun j9 v9 => zfv ad (zml M t j x) (t, 0) j9 v9)) from rfl, ← e9]
    exact hP1
  · exact h.elim
theorem ok_ald {ty : Nat} {ft : FieldType} (hty : (zty cy)[ty]? = some (cy ty, ft)) (hx : p.tables.exec = Jvm.exec) (hb : c.code = cc) (hK : va_K D vwCl (zty cy) s) (h3 : (ty = 0 ∧ ft = .int ∧ decode cc pc = .ok (.iaload, 1)) ∨ (ty = 1 ∧ ft = .byte ∧ decode cc pc = .ok (.baload, 1)) ∨ (ty = 2 ∧ ft = .boolean ∧ decode cc pc = .ok (.baload, 1))) : zOk p l e R s m args below meth c D cy A ad bl nL ce so Qm pc (zt_ald (zkd bl) ty (pc + 1)) := by
  intro X hX ls st M h H locs arr hn hP hS hl
  unfold zt_ald at h
  split at h
  · rename_i i t o r
    obtain ⟨⟨n, hz, hin⟩, h⟩ := h
    obtain ⟨q0, -, hq⟩ := zrow (cy := cy) (ad := ad) hz
    have kk := hX _ _ _ _ h H locs arr hn hP hS hl
    rcases h3 with ⟨rfl, rfl, hdg⟩ | ⟨rfl, rfl, hdg⟩ | ⟨rfl, rfl, hdg⟩
    · exact va_iald hx hb hK hP q0 0 (hq M) hty hin hdg kk
    · exact va_bald hx hb hK hP q0 1 (hq M) hty hin hdg kk
    · exact va_zald hx hb hK hP q0 2 (hq M) hty hin hdg kk
  · exact h.elim
theorem ok_ast {ty : Nat} {ft : FieldType} (hty : (zty cy)[ty]? = some (cy ty, ft)) (hx : p.tables.exec = Jvm.exec) (hb : c.code = cc) (hK : va_K D vwCl (zty cy) s) (hD : ∀ M, va_D A (zwl cy ad bl M)) (h3 : (ty = 0 ∧ ft = .int ∧ decode cc pc = .ok (.iastore, 1)) ∨ (ty = 1 ∧ ft = .byte ∧ decode cc pc = .ok (.bastore, 1)) ∨ (ty = 2 ∧ ft = .boolean ∧ decode cc pc = .ok (.bastore, 1))) : zOk p l e R s m args below meth c D cy A ad bl nL ce so Qm pc (zt_ast (zkd bl) ty (pc + 1)) := by
  intro X hX ls st M h H locs arr hn hP hS hl
  unfold zt_ast at h
  split at h
  · rename_i x i t o r
    obtain ⟨⟨n, hz, hin⟩, h⟩ := h
    obtain ⟨q0, hs0, hq⟩ := zrow (cy := cy) (ad := ad) hz
    have kk := fun H1 locs1 hP1 hS1 => hX _ _ _ _ (h _ rfl) H1 locs1 arr hn hP1 hS1 hl
    have hset := zwl_set (M' := zmw M t o (upd (M.1 t o) i.toNatClampNeg (znar ty x))) (hD M) hs0 (fun r' cs' hr => zce_mw r' cs' hr)
    rw [show zce cy ad bl (zmw M t o (upd (M.1 t o) i.toNatClampNeg (znar ty x))) (t, o) (.inl (ty, n)) = .inl (cy ty, n, .inl (upd (M.1 t o) i.toNatClampNeg (znar ty x))) from by show (Sum.inl (cy ty, n, Sum.inl ((zmw M t o (upd (M.1 t o) i.toNatClampNeg (znar ty x))).1 t o)) : va_E) = _; rw [zmw_at]] at hset
    rcases h3 with ⟨rfl, rfl, hdg⟩ | ⟨rfl, rfl, hdg⟩ | ⟨rfl, rfl, hdg⟩
    · exact va_iast hx hb hK hP (hD M) hS q0 0 (hq M) hty hin hdg (fun H1 locs1 hP1 hD1 hS1 => kk H1 locs1 (by rw [← hset]; exact hP1) hS1)
    · exact va_bast hx hb hK hP (hD M) hS q0 1 (hq M) hty hin hdg (fun H1 locs1 hP1 hD1 hS1 => kk H1 locs1 (by rw [← hset]; exact hP1) hS1)
    · exact va_zast hx hb hK hP (hD M) hS q0 2 (hq M) hty hin hdg (fun H1 locs1 hP1 hD1 hS1 => kk H1 locs1 (by rw [← hset]; exact hP1) hS1)
  · exact h.elim
theorem ok_copy (hx : p.tables.exec = Jvm.exec) (hb : c.code = cc) (hml : c.maxLocals = nL) {own : String} {index : Nat} (hown : s.vm.findClass own = some m.cls) (hlink : (Cond.methodLink own index arraycopyName).before args s = true) (hnat : (Cond.native arraycopyName).before args s = true) (hstat : (Cond.static arraycopyName).before args s = true) (hini : (Cond.initialized "java/lang/System").before args s = true) (hK : va_K D vwCl (zty cy) s) (hD : ∀ M, va_D A (zwl cy ad bl M)) (hR : 1 ≤ R.frames ∧ 40 ≤ R.locals) (hdg : decode cc pc = .ok (.invokestatic index, 3)) : zOk p l e R s m args below meth c D cy A ad bl nL ce so Qm pc (zt_copy (zkd bl) (pc + 3)) := by
  intro X hX ls st M h H locs arr hn hP hS hl
  unfold zt_copy at h
  split at h
  · rename_i n dp t1 o1 sp t0 o0 r
    split at h
    · rename_i hw
      obtain ⟨⟨n0, n1, hz0, hz1, g1, g2, g3, g4, g5⟩, h⟩ := h
      obtain ⟨q0, -, hq0⟩ := zrow (cy := cy) (ad := ad) hz0
      obtain ⟨q1, hs1, hq1⟩ := zrow (cy := cy) (ad := ad) hz1
      have hset := zwl_set (M' := zcpy M t0 o0 t1 o1 sp.toNatClampNeg dp.toNatClampNeg n.toNatClampNeg) (hD M) hs1 (fun r' cs' hr => zce_mw r' cs' hr)
      rw [show zce cy ad bl (zcpy M t0 o0 t1 o1 sp.toNatClampNeg dp.toNatClampNeg n.toNatClampNeg) (t1, o1) (.inl (0, n1)) = .inl (cy 0, n1, .inl (va_cpy (M.1 t0 o0) (M.1 t1 o1) sp.toNatClampNeg dp.toNatClampNeg n.toNatClampNeg)) from by show (Sum.inl (cy 0, n1, Sum.inl ((zcpy M t0 o0 t1 o1 sp.toNatClampNeg dp.toNatClampNeg n.toNatClampNeg).1 t1 o1)) : va_E) = _; unfold zcpy; rw [zmw_at]] at hset
      refine va_copyi hx hb (by rw [hml]; exact hl.1.symm) hown hlink hnat hstat hini hK hP (hD M) hS q0 q1 0 0 (hq0 M) (hq1 M) rfl rfl rfl g1 g2 g3 g4 g5 (fun _ _ => rfl) hR.1 ?_ hdg (fun H1 locs1 hP1 hD1 hS1 => hX _ _ _ _ (h _ rfl) H1 locs1 arr hn (by rw [← hset]; exact hP1) hS1 hl)
      rw [zwt_eq]
      have := Nat.le_of_ble_eq_true hw
      have e9 : nativeFrameWords "java/lang/System" "arraycopy" 5 + 11 ≤ 32 := by decide +kernel
      omega
    · exact h.elim
  · exact h.elim
theorem ok_mmax (hx : p.tables.exec = Jvm.exec) (hb : c.code = cc) (hml : c.maxLocals = nL) {own : String} {index : Nat} (hown : s.vm.findClass own = some m.cls) (hlink : (Cond.methodLink own index Lib.Math.max.name).before args s = true) (hstat : (Cond.static Lib.Math.max.name).before args s = true) (hini : (Cond.initialized "java/lang/Math").before args s = true) (hcode : (Cond.code Lib.Math.max.name Lib.Math.max.code 2 (some .int)).before args s = true) (hR : 1 ≤ R.frames ∧ 40 ≤ R.locals) (hcs : ce ≤ R.cells ∧ so ≤ R.slots) (hdg : decode cc pc = .ok (.invokestatic index, 3)) : zOk p l e R s m args below meth c D cy A ad bl nL ce so Qm pc (zt_wbin (fun x y => if x < y then y else x) (pc + 3)) := by
  intro X hX ls st M h H locs arr hn hP hS hl
  unfold zt_wbin at h
  split at h
  · rename_i y x r
    split at h
    · rename_i hw
      have hw := Nat.le_of_ble_eq_true hw
      exact va_mmax hx hb (by rw [hml]; exact hl.1.symm) hown hlink hstat hini hcode hR.1 (by rw [zwt_eq]; omega) hcs.1 hcs.2 hdg (hX _ _ _ _ h H locs arr hn hP hS hl)
    · exact h.elim
  · exact h.elim
theorem ok_mmin (hx : p.tables.exec = Jvm.exec) (hb : c.code = cc) (hml : c.maxLocals = nL) {own : String} {index : Nat} (hown : s.vm.findClass own = some m.cls) (hlink : (Cond.methodLink own index Lib.Math.min.name).before args s = true) (hstat : (Cond.static Lib.Math.min.name).before args s = true) (hini : (Cond.initialized "java/lang/Math").before args s = true) (hcode : (Cond.code Lib.Math.min.name Lib.Math.min.code 2 (some .int)).before args s = true) (hR : 1 ≤ R.frames ∧ 40 ≤ R.locals) (hcs : ce ≤ R.cells ∧ so ≤ R.slots) (hdg : decode cc pc = .ok (.invokestatic index, 3)) : zOk p l e R s m args below meth c D cy A ad bl nL ce so Qm pc (zt_wbin (fun x y => if y < x then y else x) (pc + 3)) := by
  intro X hX ls st M h H locs arr hn hP hS hl
  unfold zt_wbin at h
  split at h
  · rename_i y x r
    split at h
    · rename_i hw
      have hw := Nat.le_of_ble_eq_true hw
      exact va_mmin hx hb (by rw [hml]; exact hl.1.symm) hown hlink hstat hini hcode hR.1 (by rw [zwt_eq]; omega) hcs.1 hcs.2 hdg (hX _ _ _ _ h H locs arr hn hP hS hl)
    · exact h.elim
  · exact h.elim
/-! switches -/
theorem zswl_hit {X : zX} {ls : zLS} {r : List zV} {M : zM} {x : Int32} {df : Nat} : ∀ {cs : List (Int32 × Nat)}, zswl X ls r M x df cs → (X df ls r M ∧ ∀ q ∈ cs, ¬ x = q.1) ∨ ∃ (i : Nat) (q : Int32 × Nat), cs[i]? = some q ∧ x = q.1 ∧ X q.2 ls r M
  | [], h => Or.inl ⟨h, fun q hq => by cases hq⟩
  | q :: cs, h => by
    by_cases hq : x = q.1
    · exact Or.inr ⟨0, q, rfl, hq, h.1 hq⟩
    · rcases zswl_hit (h.2 hq) with ⟨h1, h2⟩ | ⟨i, q', h1, h2, h3⟩
      · refine Or.inl ⟨h1, fun y hy => ?_⟩
        rcases List.mem_cons.mp hy with rfl | hy
        · exact hq
        · exact h2 y hy
      · exact Or.inr ⟨i + 1, q', h1, h2, h3⟩
theorem ok_tsw (hx : p.tables.exec = Jvm.exec) (hb : c.code = cc) {dflt lo hi : Int} {offs : Array Int} {len : Nat} {cs : List (Int32 × Nat)} {df : Nat} (hdg : decode cc pc = .ok (.tableswitch dflt lo hi offs, len)) (hd : (pc : Int) + dflt = (df : Int)) (hh : hi = lo + cs.length - 1) (hcs : ∀ (i : Nat), i < cs.length → ∃ q off, cs[i]? = some q ∧ q.1.toInt = lo + i ∧ offs[i]? = some off ∧ (pc : Int) + off = (q.2 : Int)) : zOk p l e R s m args below meth c D cy A ad bl nL ce so Qm pc (zt_sw cs df) := by
  intro X hX ls st M h H locs arr hn hP hS hl
  unfold zt_sw at h
  split at h
  · rename_i x r
    rcases zswl_hit h with ⟨h1, h2⟩ | ⟨i, q, h1, h2, h3⟩
    · refine lv_tableOut hx hb hdg ?_ hd (hX _ _ _ _ h1 H locs arr hn hP hS hl)
      by_cases h5 : x.toInt < lo
      · exact Or.inl h5
      · refine Or.inr (Int.not_le.mp fun h6 => ?_)
        obtain ⟨q, off, g1, g2, -, -⟩ := hcs (x.toInt - lo).toNat (by omega)
        exact h2 q (List.mem_of_getElem? g1) (Int32.toInt_inj.mp (by rw [g2]; omega))
    · have hi' := (List.getElem?_eq_some_iff.mp h1).1
      obtain ⟨q', off, g1, g2, g3, g4⟩ := hcs i hi'
      cases h1.symm.trans g1
      subst h2
      exact lv_tableIn hx hb hdg (by rw [g2]; omega) (by rw [g2]; omega) (by rw [g2, show (lo + (i : Int) - lo).toNat = i by omega]; exact g3) g4 (hX _ _ _ _ h3 H locs arr hn hP hS hl)
  · exact h.elim
theorem ok_lsw (hx : p.tables.exec = Jvm.exec) (hb : c.code = cc) {dflt : Int} {ps : Array (Int × Int)} {len : Nat} {cs : List (Int32 × Nat)} {df : Nat} (hdg : decode cc pc = .ok (.lookupswitch dflt ps, len)) (hp : (ps.toList.zip (ps.toList.drop 1)).all (fun (a, next) => a.1 < next.1) = true) (hd : (pc : Int) + dflt = (df : Int)) (hcs : ps.toList = cs.map (fun q => (q.1.toInt, (q.2 : Int) - (pc : Int)))) : zOk p l e R s m args below meth c D cy A ad bl nL ce so Qm pc (zt_sw cs df) := by
  intro X hX ls st M h H locs arr hn hP hS hl
  unfold zt_sw at h
  split at h
  · rename_i x r
    have key : ∀ {cs : List (Int32 × Nat)}, zswl X ls r M x df cs → ∃ (tg : Nat), X tg ls r M ∧ (pc : Int) + Op.lookupswitch.offset (cs.map (fun q => (q.1.toInt, (q.2 : Int) - (pc : Int)))) dflt x.toInt = (tg : Int) := by
      intro cs
      induction cs with
      | nil => intro h; exact ⟨df, h, hd⟩
      | cons q cs ih =>
        intro h
        by_cases hq : x = q.1
        · subst hq
          refine ⟨q.2, h.1 rfl, ?_⟩
          simp [Op.lookupswitch.offset]
          omega
        · obtain ⟨tg, g1, g2⟩ := ih (h.2 hq)
          refine ⟨tg, g1, ?_⟩
          rw [List.map_cons, lv_osw hq rfl]
          exact g2
    obtain ⟨tg, g1, g2⟩ := key h
    exact lv_lookup hx hb hdg hp rfl (by rw [hcs]; exact g2) (hX _ _ _ _ g1 H locs arr hn hP hS hl)
  · exact h.elim
end AMh
