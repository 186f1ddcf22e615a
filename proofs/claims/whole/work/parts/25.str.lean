/-! texts: their fields, their bytes, calls of String's own methods -/
def zt_sval (nx : Nat) : zT := fun X ls st M => match st with
  | .inr (.inr (.inl (t, 0))) :: r => (20 ≤ t ∧ t < 24) ∧ X nx ls (zR t 1 :: r) M
  | _ => False
def zt_scod (nx : Nat) : zT := fun X ls st M => match st with
  | .inr (.inr (.inl (t, 0))) :: r => (20 ≤ t ∧ t < 24) ∧ X nx ls (zI 0 :: r) M
  | _ => False
def zt_slen (nx : Nat) : zT := fun X ls st M => match st with
  | .inr (.inr (.inl (t, o))) :: r => o = 1 ∧ (20 ≤ t ∧ t < 24) ∧ X nx ls (zI (Int32.ofNat (zslen.getD (t - 20) 0)) :: r) M
  | _ => False
def zt_sby (nx : Nat) : zT := fun X ls st M => match st with
  | .inl i :: .inr (.inr (.inl (t, o))) :: r => o = 1 ∧ (20 ≤ t ∧ t < 24) ∧ vp_in i (zslen.getD (t - 20) 0) ∧ X nx ls (zI ((zsbyt.getD (t - 20) []).getD i.toNatClampNeg 0) :: r) M
  | _ => False
def zt_any (nx : Nat) : zT := fun X ls st M => X nx ls (zN :: st) M ∧ X nx ls (zR 30 0 :: st) M
def zt_nret (ty : FieldType) (K : zK) : zT := fun _ _ st M => match st with
  | .inl x :: [] => narrow ty (.int x) = .int x ∧ K (some (.inl x)) M
  | _ => False
def zrvS (sp : zSpec) : Prop := ∀ kd as M K, sp kd as M K → ∃ t as', as = zR t 0 :: as' ∧ 20 ≤ t ∧ t < 24
section AMs
variable {p : Program} {l : Launch} {e : Env} {R : Room} {s : State} {m : MethodId} {args : Array Value} {below : List Frame} {meth : Method} {c : Code} {D : va_G} {cy : Nat → ClassId} {A : Nat → Prop} {ad : Nat × Nat → Nat} {bl : zBl} {nL ce so : Nat} {Qm : State → Prop} {cc : ByteArray} {pc : Nat}
theorem ok_dead : zOk p l e R s m args below meth c D cy A ad bl nL ce so Qm pc (fun _ _ _ _ => False) := fun _ _ _ _ _ h => h.elim
theorem ok_str (hx : p.tables.exec = Jvm.exec) (hb : c.code = cc) (hown : s.vm.findClass RX1 = some m.cls) (hE : zE ad A s) {i index : Nat} (hi : i < 4) (hix : zsix.getD i 0 = index) (hdg : decode cc pc = .ok (.ldc index, 2)) : zOk p l e R s m args below meth c D cy A ad bl nL ce so Qm pc (zt_const (zR (20 + i) 0) (pc + 2)) :=
  fun _ hX _ _ _ h H locs arr hn hP hS hl => va_ldcS hx hb hown (hE.2.1 i hi) (by rw [hix]; exact hdg) (hX _ _ _ _ h H locs arr hn hP hS hl)
theorem ok_i2c (hx : p.tables.exec = Jvm.exec) (hb : c.code = cc) (hdg : decode cc pc = .ok (.i2c, 1)) : zOk p l e R s m args below meth c D cy A ad bl nL ce so Qm pc (zt_un (fun x => zI (x.toUInt32 % 65536).toInt32) (pc + 1)) := by
  intro X hX ls st M h H locs arr hn hP hS hl
  unfold zt_un at h
  split at h
  · exact lv_i2c hx hb hdg rfl (hX _ _ _ _ h H locs arr hn hP hS hl)
  · exact h.elim
theorem ok_compact (hx : p.tables.exec = Jvm.exec) (hb : c.code = cc) {own : String} {index : Nat} (hown : s.vm.findClass own = some m.cls) (hE : zE ad A s) (hlink : (Cond.fieldLink own index "java/lang/String" "COMPACT_STRINGS" "Z").before args s = true) (hdg : decode cc pc = .ok (.getstatic index, 3)) : zOk p l e R s m args below meth c D cy A ad bl nL ce so Qm pc (zt_const (zI 1) (pc + 3)) :=
  fun _ hX _ _ _ h H locs arr hn hP hS hl => va_gets hx hb hE.2.2.1 hS hown hlink (fun _ h => h) hdg (hX _ _ _ _ h H locs arr hn hP hS hl)
theorem ok_any (hx : p.tables.exec = Jvm.exec) (hb : c.code = cc) {own : String} {index : Nat} (hown : s.vm.findClass own = some m.cls) (hE : zE ad A s) (hlink : (Cond.fieldLink own index "jdk/internal/util/Preconditions" "SIOOBE_FORMATTER" "Ljava/util/function/BiFunction;").before args s = true) (hdg : decode cc pc = .ok (.getstatic index, 3)) : zOk p l e R s m args below meth c D cy A ad bl nL ce so Qm pc (zt_any (pc + 3)) := by
  intro X hX ls st M h H locs arr hn hP hS hl
  rcases hE.2.2.2 with hz | hz
  · exact va_gets hx hb hz hS hown hlink (fun _ h => h) hdg (hX _ _ _ _ h.1 H locs arr hn hP hS hl)
  · exact va_gets hx hb hz hS hown hlink (fun _ h => h) hdg (hX _ _ _ _ h.2 H locs arr hn hP hS hl)
theorem zs_ix {t : Nat} (h : 20 ≤ t ∧ t < 24) : t - 20 < 4 ∧ 20 + (t - 20) = t := by omega
theorem ok_sval (hx : p.tables.exec = Jvm.exec) (hb : c.code = cc) {own : String} {index : Nat} (hown : s.vm.findClass own = some m.cls) (hE : zE ad A s) (hlink : (Cond.fieldLink own index "java/lang/String" "value" "[B").before args s = true) (hdg : decode cc pc = .ok (.getfield index, 3)) : zOk p l e R s m args below meth c D cy A ad bl nL ce so Qm pc (zt_sval (pc + 3)) := by
  intro X hX ls st M h H locs arr hn hP hS hl
  unfold zt_sval at h
  split at h
  · rename_i t r
    obtain ⟨ht, h⟩ := h
    obtain ⟨h4, h5⟩ := zs_ix ht
    have hv := (hE.1.1 (t - 20) h4).2.2.1
    simp only [h5] at hv
    exact vk_getf hx hb hv hS hown hlink (fun _ h => h) hdg (hX _ _ _ _ h H locs arr hn hP hS hl)
  · exact h.elim
theorem ok_scod (hx : p.tables.exec = Jvm.exec) (hb : c.code = cc) {own : String} {index : Nat} (hown : s.vm.findClass own = some m.cls) (hE : zE ad A s) (hlink : (Cond.fieldLink own index "java/lang/String" "coder" "B").before args s = true) (hdg : decode cc pc = .ok (.getfield index, 3)) : zOk p l e R s m args below meth c D cy A ad bl nL ce so Qm pc (zt_scod (pc + 3)) := by
  intro X hX ls st M h H locs arr hn hP hS hl
  unfold zt_scod at h
  split at h
  · rename_i t r
    obtain ⟨ht, h⟩ := h
    obtain ⟨h4, h5⟩ := zs_ix ht
    have hv := (hE.1.1 (t - 20) h4).2.1
    simp only [h5] at hv
    exact vk_getf hx hb hv hS hown hlink (fun _ h => h) hdg (hX _ _ _ _ h H locs arr hn hP hS hl)
  · exact h.elim
theorem ok_slen (hx : p.tables.exec = Jvm.exec) (hb : c.code = cc) (hE : zE ad A s) (hdg : decode cc pc = .ok (.arraylength, 1)) : zOk p l e R s m args below meth c D cy A ad bl nL ce so Qm pc (zt_slen (pc + 1)) := by
  intro X hX ls st M h H locs arr hn hP hS hl
  unfold zt_slen at h
  split at h
  · rename_i t o r
    obtain ⟨ho, ht, h⟩ := h
    subst ho
    obtain ⟨h4, h5⟩ := zs_ix ht
    have hv := (hE.1.1 (t - 20) h4).2.2.2
    simp only [h5] at hv
    exact va_tlen hx hb hv hS rfl hdg (hX _ _ _ _ h H locs arr hn hP hS hl)
  · exact h.elim
theorem ok_sby (hx : p.tables.exec = Jvm.exec) (hb : c.code = cc) (hE : zE ad A s) (hdg : decode cc pc = .ok (.baload, 1)) : zOk p l e R s m args below meth c D cy A ad bl nL ce so Qm pc (zt_sby (pc + 1)) := by
  intro X hX ls st M h H locs arr hn hP hS hl
  unfold zt_sby at h
  split at h
  · rename_i i t o r
    obtain ⟨ho, ht, hin, h⟩ := h
    subst ho
    obtain ⟨h4, h5⟩ := zs_ix ht
    have hv := (hE.1.1 (t - 20) h4).2.2.2
    simp only [h5] at hv
    exact va_tb hx hb hv hS hin rfl hdg (hX _ _ _ _ h H locs arr hn hP hS hl)
  · exact h.elim
theorem ok_nret {ty : FieldType} {K : zK} (hx : p.tables.exec = Jvm.exec) (hb : c.code = cc) (hr : meth.sig.returnType = some ty) (hlocks : meth.locks = false) (hQ : Qm = MQ below (zQ D cy ad bl K A) args s ce so A) (hdg : decode cc pc = .ok (.ireturn, 1)) : zOk p l e R s m args below meth c D cy A ad bl nL ce so Qm pc (zt_nret ty K) := by
  intro X hX ls st M h H locs arr hn hP hS hl
  unfold zt_nret at h
  split at h
  · subst hQ
    exact W.zret hx hb hr h.1 (fun t ht hW => ⟨⟨_, M, rfl, h.2, by rw [ht]; exact hP⟩, hS.F ht⟩) hS.2.2 hdg hlocks
  · exact h.elim
theorem ok_callVS {own : String} {d index n maxL : Nat} {y : MethodName} {bytes : ByteArray} {ret : Option FieldType} {sp : zSpec} (hrv : zrvS sp) (C0 : zCtx p l e R s m args below meth c D cy A ad bl nL ce so Qm own cc (d + 1)) (hM : zMet d y bytes maxL ret sp) (hn0 : maxL ≤ 21) (hcode : Cond.code y bytes maxL ret ∈ zW) (hlink : Cond.methodLink own index y ∈ zW) (hin : Cond.instanceMethod y ∈ zW) (hse : Cond.selects RJ0 y y ∈ zW) (hini : Cond.initialized RJ0 ∈ zW) (hd : y.cls = RJ0 ∧ y.cls ≠ "java/lang/invoke/MethodHandle" ∧ y.cls ≠ "java/lang/invoke/VarHandle" ∧ (parseMethodDescriptor y.desc).map (fun d => d.parameters.length) = some n) (hdg : decode cc pc = .ok (.invokevirtual index, 3)) : zOk p l e R s m args below meth c D cy A ad bl nL ce so Qm pc (zt_call (zkd bl) sp (n + 1) (pc + 3)) := by
  intro X hX ls st M h H locs arr hn hP hS hl
  obtain ⟨hx, hb, hml, hown, hts, hK, hD, hA0, hN, hE, ⟨hR1, hR2⟩, hc1, hc2⟩ := C0
  unfold zt_call at h
  split at h
  · rename_i hq
    obtain ⟨g1, g2, g3⟩ := zrun_split hq
    obtain ⟨t, as', e1, ht⟩ := hrv _ _ _ _ h
    obtain ⟨h4, h5⟩ := zs_ix ht
    have hrc := vk_recv hE.1 h4 hS
    simp only [h5] at hrc
    rw [e1] at g1 g2
    have hlen : as'.length = n := by simpa using g2
    have hst : (F0 m pc arr (st.map (zcv ad))).stack = (as'.map (zcv ad)).reverse ++ .ref (ad (t, 0)) :: ((st.drop (n + 1)).map (zcv ad)) := by
      show st.map (zcv ad) = _
      conv => lhs; rw [g1]
      simp [List.map_append, zcv]
    rw [e1] at h
    exact zcall (rest := st.drop (n + 1)) (va_runV (C := RJ0) (As := as'.map (zcv ad)) ⟨hx, hb, hml, hown, hts⟩ (hM l D cy ad bl (zR t 0 :: as') M _ H.size h) (cwV n hts (zgV hlink hin hse hini hcode) rfl rfl rfl hd ⟨hR1, by show 8 + (maxL + 11) + 40 * d ≤ R.locals; omega⟩) ⟨zPre_blind, hrc, fun U hU hW => ⟨rfl, by rw [hU], by rw [hU]; exact hP, va_K.moved hW.alike hK, (hD M).weaken (fun _ _ _ _ => trivial), zNW_warm hW hN, zE_go hW hU hS (zfree (hD M) hS hA0) hE⟩⟩ rfl (by rw [List.length_map]; exact hlen) hl.1 hst (zroomW g3) hdg ⟨hc1, hc2⟩) hS (zfree (hD M) hS hA0) (zfree (hD M) hS hA0) (fun r M' H1 locs1 hr hP1 hS1 => hX _ _ _ _ hr H1 locs1 arr hn hP1 hS1 hl)
  · exact h.elim
end AMs
