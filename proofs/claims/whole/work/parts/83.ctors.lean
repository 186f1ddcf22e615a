/-! constructors -/
def ciP (D : va_G) (cy : Nat → ClassId) (h0 sz : Nat) (o : va_E) : Array Value → State → Prop := va_Pc [.ref h0] (fun U => U.heap.size = sz ∧ va_P D vwCl [(h0, o)] U.heap ∧ va_K D vwCl (zty cy) U ∧ va_D (fun _ => True) [(h0, o)] ∧ zNW U ∧ va_AO "ScrapedRoll$Roll" U)
theorem ciP_blind {D : va_G} {cy : Nat → ClassId} {h0 sz : Nat} {o : va_E} : FrameBlind (ciP D cy h0 sz o) := fun a U g mk q => by
  obtain ⟨q0, q1, qP, qK, qD, qN, qO⟩ := q
  exact ⟨q0, q1, qP, va_K.moved (u := U) (U := U.calling g mk a) (Vm.Alike.refl U.vm) qK, qD, zNW_same (u := U) (U := U.calling g mk a) rfl qN, va_AO.moved (u := U) (U := U.calling g mk a) (Vm.Alike.refl U.vm) qO⟩
theorem ra_eq {U : State} {c1 c2 : ClassId} {ty : FieldType} (h1 : va_RA U c1 ty) (h2 : va_RA U c2 ty) : c1 = c2 := by
  cases ty with
  | object C =>
    obtain ⟨_, _, _, _, _, e1⟩ := h1
    obtain ⟨_, _, _, _, _, e2⟩ := h2
    rw [e1] at e2
    exact Option.some.inj e2
  | _ =>
    have e1 : U.vm.findClass _ = some c1 := h1
    have e2 : U.vm.findClass _ = some c2 := h2
    rw [e1] at e2
    exact Option.some.inj e2
section ZCN
variable {p : Program} {l : Launch} {e : Env} {R : Room} {s : State} {m : MethodId} {args : Array Value} {below : List Frame} {meth : Method} {c : Code} {H H0 : Heap} {locs : List Loc} {cells slots : Nat} {Q : State → Prop} {cc : ByteArray} {pc : Nat} {ls : Array Slot} {rest : List Value} {D : va_G} {cy : Nat → ClassId} {A : Nat → Prop} {ws : va_W}
theorem zc_newa0 (hx : p.tables.exec = Jvm.exec) (hb : c.code = cc) (harr : (Cond.arrayClass .int).before args s = true) (hK : va_K D vwCl (zty cy) s) (hP : va_P D vwCl ws H) (hD : va_D A ws) (hS : va_S A H0 H locs) (hA : ∀ q, H0.size ≤ q → A q) {n : Int32} {N : Nat} (hn : ¬ n < 0) (hN : n.toNatClampNeg = N) (hbytes : N * componentBytes .int ≤ 536870912) (hcells : cells + 1 ≤ R.cells) (hslots : slots + N ≤ R.slots) (hdg : decode cc pc = .ok (.newarray .int, 2))
    (kk : ∀ (q : Nat) (H1 : Heap), va_P D vwCl (ws ++ [(q, .inl (cy 0, N, .inl (fun _ => 0)))]) H1 → va_D A (ws ++ [(q, .inl (cy 0, N, .inl (fun _ => 0)))]) → va_S A H0 H1 locs → W p l e R s m args below meth c H1 locs (cells + 1) (slots + N) Q (F0 m (pc + 2) ls (.ref q :: rest))) : W p l e R s m args below meth c H locs cells slots Q (F0 m pc ls (.int n :: rest)) := by
  refine va_newa (atype := .int) (ty := .int) hx hb harr rfl hK hP hD hS hA (a0 := (N, .inl (fun _ => 0))) (fun _ => rfl) hn hN hbytes hcells hslots hdg (fun q cA H1 hK1 hP1 hD1 hS1 => ?_)
  have e : cA = cy 0 := ra_eq (hK1.2 4 _ rfl).2 (hK.2 0 _ rfl).2
  subst e
  exact kk q H1 hP1 hD1 hS1
theorem zc_newa1 (hx : p.tables.exec = Jvm.exec) (hb : c.code = cc) (harr : (Cond.arrayClass .byte).before args s = true) (hK : va_K D vwCl (zty cy) s) (hP : va_P D vwCl ws H) (hD : va_D A ws) (hS : va_S A H0 H locs) (hA : ∀ q, H0.size ≤ q → A q) {n : Int32} {N : Nat} (hn : ¬ n < 0) (hN : n.toNatClampNeg = N) (hbytes : N * componentBytes .byte ≤ 536870912) (hcells : cells + 1 ≤ R.cells) (hslots : slots + N ≤ R.slots) (hdg : decode cc pc = .ok (.newarray .byte, 2))
    (kk : ∀ (q : Nat) (H1 : Heap), va_P D vwCl (ws ++ [(q, .inl (cy 1, N, .inl (fun _ => 0)))]) H1 → va_D A (ws ++ [(q, .inl (cy 1, N, .inl (fun _ => 0)))]) → va_S A H0 H1 locs → W p l e R s m args below meth c H1 locs (cells + 1) (slots + N) Q (F0 m (pc + 2) ls (.ref q :: rest))) : W p l e R s m args below meth c H locs cells slots Q (F0 m pc ls (.int n :: rest)) := by
  refine va_newa (atype := .byte) (ty := .byte) hx hb harr rfl hK hP hD hS hA (a0 := (N, .inl (fun _ => 0))) (fun _ => rfl) hn hN hbytes hcells hslots hdg (fun q cA H1 hK1 hP1 hD1 hS1 => ?_)
  have e : cA = cy 1 := ra_eq (hK1.2 4 _ rfl).2 (hK.2 1 _ rfl).2
  subst e
  exact kk q H1 hP1 hD1 hS1
theorem zc_newa2 (hx : p.tables.exec = Jvm.exec) (hb : c.code = cc) (harr : (Cond.arrayClass .boolean).before args s = true) (hK : va_K D vwCl (zty cy) s) (hP : va_P D vwCl ws H) (hD : va_D A ws) (hS : va_S A H0 H locs) (hA : ∀ q, H0.size ≤ q → A q) {n : Int32} {N : Nat} (hn : ¬ n < 0) (hN : n.toNatClampNeg = N) (hbytes : N * componentBytes .boolean ≤ 536870912) (hcells : cells + 1 ≤ R.cells) (hslots : slots + N ≤ R.slots) (hdg : decode cc pc = .ok (.newarray .boolean, 2))
    (kk : ∀ (q : Nat) (H1 : Heap), va_P D vwCl (ws ++ [(q, .inl (cy 2, N, .inl (fun _ => 0)))]) H1 → va_D A (ws ++ [(q, .inl (cy 2, N, .inl (fun _ => 0)))]) → va_S A H0 H1 locs → W p l e R s m args below meth c H1 locs (cells + 1) (slots + N) Q (F0 m (pc + 2) ls (.ref q :: rest))) : W p l e R s m args below meth c H locs cells slots Q (F0 m pc ls (.int n :: rest)) := by
  refine va_newa (atype := .boolean) (ty := .boolean) hx hb harr rfl hK hP hD hS hA (a0 := (N, .inl (fun _ => 0))) (fun _ => rfl) hn hN hbytes hcells hslots hdg (fun q cA H1 hK1 hP1 hD1 hS1 => ?_)
  have e : cA = cy 2 := ra_eq (hK1.2 4 _ rfl).2 (hK.2 2 _ rfl).2
  subst e
  exact kk q H1 hP1 hD1 hS1
theorem zc_newq {own : String} {index : Nat} (hx : p.tables.exec = Jvm.exec) (hb : c.code = cc) (hown : s.vm.findClass own = some m.cls) (hclink : (Cond.classLink own index "ScrapedRoll$Roll").before args s = true) (hover : va_AO "ScrapedRoll$Roll" s) (hK : va_K D vwCl (zty cy) s) (hP : va_P D vwCl ws H) (hD : va_D A ws) (hS : va_S A H0 H locs) (hA : ∀ q, H0.size ≤ q → A q) {n : Int32} {N : Nat} (hn : ¬ n < 0) (hN : n.toNatClampNeg = N) (hbytes : N * 4 ≤ 536870912) (hcells : cells + 1 ≤ R.cells) (hslots : slots + N ≤ R.slots) (hdg : decode cc pc = .ok (.anewarray index, 3))
    (kk : ∀ (q : Nat) (H1 : Heap), va_P D vwCl (ws ++ [(q, .inl (cy 3, N, .inr (.inr (.inr (.inr (fun _ => none))))))]) H1 → va_D A (ws ++ [(q, .inl (cy 3, N, .inr (.inr (.inr (.inr (fun _ => none))))))]) → va_S A H0 H1 locs → W p l e R s m args below meth c H1 locs (cells + 1) (slots + N) Q (F0 m (pc + 3) ls (.ref q :: rest))) : W p l e R s m args below meth c H locs cells slots Q (F0 m pc ls (.int n :: rest)) := by
  refine va_newq hx hb hown hclink hover hK hP hD hS hA hn hN hbytes hcells hslots hdg (fun q cA H1 hK1 hP1 hD1 hS1 => ?_)
  have e : cA = cy 3 := ra_eq (hK1.2 4 _ rfl).2 (hK.2 3 _ rfl).2
  subst e
  exact kk q H1 hP1 hD1 hS1
end ZCN
theorem dd_X3_init_0 : decode cX3_init 0 = .ok (.aload_n 0, 1) := by decide +kernel
theorem dd_X3_init_1 : decode cX3_init 1 = .ok (.invokespecial 3, 3) := by decide +kernel
theorem dd_X3_init_4 : decode cX3_init 4 = .ok (.aload_n 0, 1) := by decide +kernel
theorem dd_X3_init_5 : decode cX3_init 5 = .ok (.bipush 6, 2) := by decide +kernel
theorem dd_X3_init_7 : decode cX3_init 7 = .ok (.newarray .int, 2) := by decide +kernel
theorem dd_X3_init_9 : decode cX3_init 9 = .ok (.putfield 9, 3) := by decide +kernel
theorem dd_X3_init_12 : decode cX3_init 12 = .ok (.aload_n 0, 1) := by decide +kernel
theorem dd_X3_init_13 : decode cX3_init 13 = .ok (.bipush 24, 2) := by decide +kernel
theorem dd_X3_init_15 : decode cX3_init 15 = .ok (.newarray .int, 2) := by decide +kernel
theorem dd_X3_init_17 : decode cX3_init 17 = .ok (.putfield 15, 3) := by decide +kernel
theorem dd_X3_init_20 : decode cX3_init 20 = .ok (.aload_n 0, 1) := by decide +kernel
theorem dd_X3_init_21 : decode cX3_init 21 = .ok (.bipush 24, 2) := by decide +kernel
theorem dd_X3_init_23 : decode cX3_init 23 = .ok (.newarray .int, 2) := by decide +kernel
theorem dd_X3_init_25 : decode cX3_init 25 = .ok (.putfield 18, 3) := by decide +kernel
theorem dd_X3_init_28 : decode cX3_init 28 = .ok (.aload_n 0, 1) := by decide +kernel
theorem dd_X3_init_29 : decode cX3_init 29 = .ok (.bipush 24, 2) := by decide +kernel
theorem dd_X3_init_31 : decode cX3_init 31 = .ok (.newarray .int, 2) := by decide +kernel
theorem dd_X3_init_33 : decode cX3_init 33 = .ok (.putfield 21, 3) := by decide +kernel
theorem dd_X3_init_36 : decode cX3_init 36 = .ok (.aload_n 0, 1) := by decide +kernel
theorem dd_X3_init_37 : decode cX3_init 37 = .ok (.bipush 24, 2) := by decide +kernel
theorem dd_X3_init_39 : decode cX3_init 39 = .ok (.newarray .int, 2) := by decide +kernel
theorem dd_X3_init_41 : decode cX3_init 41 = .ok (.putfield 24, 3) := by decide +kernel
theorem dd_X3_init_44 : decode cX3_init 44 = .ok (.aload_n 0, 1) := by decide +kernel
theorem dd_X3_init_45 : decode cX3_init 45 = .ok (.bipush 24, 2) := by decide +kernel
theorem dd_X3_init_47 : decode cX3_init 47 = .ok (.newarray .int, 2) := by decide +kernel
theorem dd_X3_init_49 : decode cX3_init 49 = .ok (.putfield 27, 3) := by decide +kernel
theorem dd_X3_init_52 : decode cX3_init 52 = .ok (.aload_n 0, 1) := by decide +kernel
theorem dd_X3_init_53 : decode cX3_init 53 = .ok (.iconst 0, 1) := by decide +kernel
theorem dd_X3_init_54 : decode cX3_init 54 = .ok (.putfield 30, 3) := by decide +kernel
theorem dd_X3_init_57 : decode cX3_init 57 = .ok (.return_, 1) := by decide +kernel
def rm_X3 : Room := { frames := 1, cells := 6, slots := 126, locals := 40 }
def ciB_X3 (D : va_G) (cy : Nat → ClassId) (h0 : Nat) (A : Nat → Prop) (t : State) : Prop := ∃ q7 q15 q23 q31 q39 q47 : Nat, va_P D vwCl [(h0, .inr (2, [.ref q7, .ref q15, .ref q23, .ref q31, .ref q39, .ref q47, .int 0])), (q7, .inl (cy 0, 6, .inl (fun _ => 0))), (q15, .inl (cy 0, 24, .inl (fun _ => 0))), (q23, .inl (cy 0, 24, .inl (fun _ => 0))), (q31, .inl (cy 0, 24, .inl (fun _ => 0))), (q39, .inl (cy 0, 24, .inl (fun _ => 0))), (q47, .inl (cy 0, 24, .inl (fun _ => 0)))] t.heap ∧ va_D A [(h0, .inr (2, [.ref q7, .ref q15, .ref q23, .ref q31, .ref q39, .ref q47, .int 0])), (q7, .inl (cy 0, 6, .inl (fun _ => 0))), (q15, .inl (cy 0, 24, .inl (fun _ => 0))), (q23, .inl (cy 0, 24, .inl (fun _ => 0))), (q31, .inl (cy 0, 24, .inl (fun _ => 0))), (q39, .inl (cy 0, 24, .inl (fun _ => 0))), (q47, .inl (cy 0, 24, .inl (fun _ => 0)))]
set_option maxRecDepth 100000 in
set_option maxHeartbeats 4000000 in
theorem ci_X3 (l : Launch) (D : va_G) (cy : Nat → ClassId) (h0 sz : Nat) : Met l yX3_init (zws yX3_init cX3_init 1 none) rm_X3 (ciP D cy h0 sz (.inr (2, [.null, .null, .null, .null, .null, .null, .int 0]))) (va_Qv (fun _ : Unit => True) (fun _ t => ciB_X3 D cy h0 (va_A [(h0, .inr (2, [.null, .null, .null, .null, .null, .null, .int 0]))] sz) t) (va_A [(h0, .inr (2, [.null, .null, .null, .null, .null, .null, .int 0]))] sz)) 6 126 (va_A [(h0, .inr (2, [.null, .null, .null, .null, .null, .null, .int 0]))] sz) := by
  refine Met.ofW (cc := cX3_init) (maxL := 1) (ret := none) (ws := zws yX3_init cX3_init 1 none) (ws' := zW) (by decide) rfl ?_
  intro p e s m args below meth c s₁ B hml hv
  obtain ⟨rfl, hsz, hP, hK, hD0, hN, hO⟩ := hv
  have hx := B.exec
  have hb := B.bytes
  have hr := B.returns
  have hts : ∀ w ∈ zW, w.before _ s = true := fun w hw => atoms_spec (ws := zws yX3_init cX3_init 1 none) B.pre w (List.mem_cons_of_mem _ hw)
  have hown : s.vm.findClass RX3 = some m.cls := findClass_of_methodNamed B.named
  have hlocks := B.notSynchronized
  have hin : meth.name = "<init>" := (name_of_methodNamed B.named B.method).1
  subst hsz
  have hD := hD0.self (sz := s.heap.size)
  unfold ciB_X3
  generalize hAe : va_A [(h0, .inr (2, [.null, .null, .null, .null, .null, .null, .int 0]))] s.heap.size = A at hD ⊢
  have hA : ∀ q : Nat, s.heap.size ≤ q → A q := fun q h => by rw [← hAe]; exact Or.inr h
  have hS : va_S A s.heap s.heap [] := va_S.rf
  have hl := lv_entry ([.ref h0]) (n := 1) (Nat.le_of_ble_eq_true rfl)
  rw [lg_entry_eq]
  generalize (lg_sl ([.ref h0]) ++ List.replicate (1 - (lg_sl ([.ref h0])).length) Slot.unset).toArray = ls at hl ⊢
  have hl : lv_has ls 1 [(0, .ref h0)] := hl
  refine lv_aload_n hx hb dd_X3_init_0 rfl (lv_at hl 0 rfl) ?_
  refine W.objInit hx hb hown (hts _ wd_135) (hts _ wd_122) (hts _ wd_123) rfl (by rw [hml]; exact hl.1) rfl dd_X3_init_1 (Nat.le_of_ble_eq_true rfl) (Nat.le_of_ble_eq_true rfl) ?_
  refine W.eq (g2 := F0 m 4 ls []) rfl ?_
  refine lv_aload_n hx hb dd_X3_init_4 rfl (lv_at hl 0 rfl) ?_
  refine lv_bipush (v := 6) hx hb dd_X3_init_5 (by decide) ?_
  refine zc_newa0 (N := 6) hx hb (hts _ wd_160) hK hP hD hS hA (by decide) (by decide) (by decide) (Nat.le_of_ble_eq_true rfl) (Nat.le_of_ble_eq_true rfl) dd_X3_init_7 (fun q7 H hP hD hS => ?_)
  have hP : va_P D vwCl [(h0, .inr (2, [.null, .null, .null, .null, .null, .null, .int 0])), (q7, .inl (cy 0, 6, .inl (fun _ => 0)))] H := hP
  have hD : va_D A [(h0, .inr (2, [.null, .null, .null, .null, .null, .null, .int 0])), (q7, .inl (cy 0, 6, .inl (fun _ => 0)))] := hD
  refine W.widen (k := 1) (n := 6) (Nat.le_of_ble_eq_true rfl) (Nat.le_of_ble_eq_true rfl) ?_
  refine va_putF (D := D) (ci := 2) (v := .ref q7) (ty := (.array .int)) (C := RX3) (T := TX3) (N := 7) hx hb hts zi_X3 tyX3 tyX3_ok nmX3 hown hK hP hD hS 0 rfl rfl 0 (by decide) (hts _ wd_136) (fun _ h9 => h9) rfl hin rfl (by decide +kernel) rfl rfl (Nat.le_of_ble_eq_true rfl) dd_X3_init_9 (fun H locs hP hD hS => ?_)
  have hP : va_P D vwCl [(h0, .inr (2, [.ref q7, .null, .null, .null, .null, .null, .int 0])), (q7, .inl (cy 0, 6, .inl (fun _ => 0)))] H := hP
  have hD : va_D A [(h0, .inr (2, [.ref q7, .null, .null, .null, .null, .null, .int 0])), (q7, .inl (cy 0, 6, .inl (fun _ => 0)))] := hD
  refine lv_aload_n hx hb dd_X3_init_12 rfl (lv_at hl 0 rfl) ?_
  refine lv_bipush (v := 24) hx hb dd_X3_init_13 (by decide) ?_
  refine zc_newa0 (N := 24) hx hb (hts _ wd_160) hK hP hD hS hA (by decide) (by decide) (by decide) (Nat.le_of_ble_eq_true rfl) (Nat.le_of_ble_eq_true rfl) dd_X3_init_15 (fun q15 H hP hD hS => ?_)
  have hP : va_P D vwCl [(h0, .inr (2, [.ref q7, .null, .null, .null, .null, .null, .int 0])), (q7, .inl (cy 0, 6, .inl (fun _ => 0))), (q15, .inl (cy 0, 24, .inl (fun _ => 0)))] H := hP
  have hD : va_D A [(h0, .inr (2, [.ref q7, .null, .null, .null, .null, .null, .int 0])), (q7, .inl (cy 0, 6, .inl (fun _ => 0))), (q15, .inl (cy 0, 24, .inl (fun _ => 0)))] := hD
  refine W.widen (k := 2) (n := 30) (Nat.le_of_ble_eq_true rfl) (Nat.le_of_ble_eq_true rfl) ?_
  refine va_putF (D := D) (ci := 2) (v := .ref q15) (ty := (.array .int)) (C := RX3) (T := TX3) (N := 7) hx hb hts zi_X3 tyX3 tyX3_ok nmX3 hown hK hP hD hS 0 rfl rfl 1 (by decide) (hts _ wd_138) (fun _ h9 => h9) rfl hin rfl (by decide +kernel) rfl rfl (Nat.le_of_ble_eq_true rfl) dd_X3_init_17 (fun H locs hP hD hS => ?_)
  have hP : va_P D vwCl [(h0, .inr (2, [.ref q7, .ref q15, .null, .null, .null, .null, .int 0])), (q7, .inl (cy 0, 6, .inl (fun _ => 0))), (q15, .inl (cy 0, 24, .inl (fun _ => 0)))] H := hP
  have hD : va_D A [(h0, .inr (2, [.ref q7, .ref q15, .null, .null, .null, .null, .int 0])), (q7, .inl (cy 0, 6, .inl (fun _ => 0))), (q15, .inl (cy 0, 24, .inl (fun _ => 0)))] := hD
  refine lv_aload_n hx hb dd_X3_init_20 rfl (lv_at hl 0 rfl) ?_
  refine lv_bipush (v := 24) hx hb dd_X3_init_21 (by decide) ?_
  refine zc_newa0 (N := 24) hx hb (hts _ wd_160) hK hP hD hS hA (by decide) (by decide) (by decide) (Nat.le_of_ble_eq_true rfl) (Nat.le_of_ble_eq_true rfl) dd_X3_init_23 (fun q23 H hP hD hS => ?_)
  have hP : va_P D vwCl [(h0, .inr (2, [.ref q7, .ref q15, .null, .null, .null, .null, .int 0])), (q7, .inl (cy 0, 6, .inl (fun _ => 0))), (q15, .inl (cy 0, 24, .inl (fun _ => 0))), (q23, .inl (cy 0, 24, .inl (fun _ => 0)))] H := hP
  have hD : va_D A [(h0, .inr (2, [.ref q7, .ref q15, .null, .null, .null, .null, .int 0])), (q7, .inl (cy 0, 6, .inl (fun _ => 0))), (q15, .inl (cy 0, 24, .inl (fun _ => 0))), (q23, .inl (cy 0, 24, .inl (fun _ => 0)))] := hD
  refine W.widen (k := 3) (n := 54) (Nat.le_of_ble_eq_true rfl) (Nat.le_of_ble_eq_true rfl) ?_
  refine va_putF (D := D) (ci := 2) (v := .ref q23) (ty := (.array .int)) (C := RX3) (T := TX3) (N := 7) hx hb hts zi_X3 tyX3 tyX3_ok nmX3 hown hK hP hD hS 0 rfl rfl 2 (by decide) (hts _ wd_139) (fun _ h9 => h9) rfl hin rfl (by decide +kernel) rfl rfl (Nat.le_of_ble_eq_true rfl) dd_X3_init_25 (fun H locs hP hD hS => ?_)
  have hP : va_P D vwCl [(h0, .inr (2, [.ref q7, .ref q15, .ref q23, .null, .null, .null, .int 0])), (q7, .inl (cy 0, 6, .inl (fun _ => 0))), (q15, .inl (cy 0, 24, .inl (fun _ => 0))), (q23, .inl (cy 0, 24, .inl (fun _ => 0)))] H := hP
  have hD : va_D A [(h0, .inr (2, [.ref q7, .ref q15, .ref q23, .null, .null, .null, .int 0])), (q7, .inl (cy 0, 6, .inl (fun _ => 0))), (q15, .inl (cy 0, 24, .inl (fun _ => 0))), (q23, .inl (cy 0, 24, .inl (fun _ => 0)))] := hD
  refine lv_aload_n hx hb dd_X3_init_28 rfl (lv_at hl 0 rfl) ?_
  refine lv_bipush (v := 24) hx hb dd_X3_init_29 (by decide) ?_
  refine zc_newa0 (N := 24) hx hb (hts _ wd_160) hK hP hD hS hA (by decide) (by decide) (by decide) (Nat.le_of_ble_eq_true rfl) (Nat.le_of_ble_eq_true rfl) dd_X3_init_31 (fun q31 H hP hD hS => ?_)
  have hP : va_P D vwCl [(h0, .inr (2, [.ref q7, .ref q15, .ref q23, .null, .null, .null, .int 0])), (q7, .inl (cy 0, 6, .inl (fun _ => 0))), (q15, .inl (cy 0, 24, .inl (fun _ => 0))), (q23, .inl (cy 0, 24, .inl (fun _ => 0))), (q31, .inl (cy 0, 24, .inl (fun _ => 0)))] H := hP
  have hD : va_D A [(h0, .inr (2, [.ref q7, .ref q15, .ref q23, .null, .null, .null, .int 0])), (q7, .inl (cy 0, 6, .inl (fun _ => 0))), (q15, .inl (cy 0, 24, .inl (fun _ => 0))), (q23, .inl (cy 0, 24, .inl (fun _ => 0))), (q31, .inl (cy 0, 24, .inl (fun _ => 0)))] := hD
  refine W.widen (k := 4) (n := 78) (Nat.le_of_ble_eq_true rfl) (Nat.le_of_ble_eq_true rfl) ?_
  refine va_putF (D := D) (ci := 2) (v := .ref q31) (ty := (.array .int)) (C := RX3) (T := TX3) (N := 7) hx hb hts zi_X3 tyX3 tyX3_ok nmX3 hown hK hP hD hS 0 rfl rfl 3 (by decide) (hts _ wd_140) (fun _ h9 => h9) rfl hin rfl (by decide +kernel) rfl rfl (Nat.le_of_ble_eq_true rfl) dd_X3_init_33 (fun H locs hP hD hS => ?_)
  have hP : va_P D vwCl [(h0, .inr (2, [.ref q7, .ref q15, .ref q23, .ref q31, .null, .null, .int 0])), (q7, .inl (cy 0, 6, .inl (fun _ => 0))), (q15, .inl (cy 0, 24, .inl (fun _ => 0))), (q23, .inl (cy 0, 24, .inl (fun _ => 0))), (q31, .inl (cy 0, 24, .inl (fun _ => 0)))] H := hP
  have hD : va_D A [(h0, .inr (2, [.ref q7, .ref q15, .ref q23, .ref q31, .null, .null, .int 0])), (q7, .inl (cy 0, 6, .inl (fun _ => 0))), (q15, .inl (cy 0, 24, .inl (fun _ => 0))), (q23, .inl (cy 0, 24, .inl (fun _ => 0))), (q31, .inl (cy 0, 24, .inl (fun _ => 0)))] := hD
  refine lv_aload_n hx hb dd_X3_init_36 rfl (lv_at hl 0 rfl) ?_
  refine lv_bipush (v := 24) hx hb dd_X3_init_37 (by decide) ?_
  refine zc_newa0 (N := 24) hx hb (hts _ wd_160) hK hP hD hS hA (by decide) (by decide) (by decide) (Nat.le_of_ble_eq_true rfl) (Nat.le_of_ble_eq_true rfl) dd_X3_init_39 (fun q39 H hP hD hS => ?_)
  have hP : va_P D vwCl [(h0, .inr (2, [.ref q7, .ref q15, .ref q23, .ref q31, .null, .null, .int 0])), (q7, .inl (cy 0, 6, .inl (fun _ => 0))), (q15, .inl (cy 0, 24, .inl (fun _ => 0))), (q23, .inl (cy 0, 24, .inl (fun _ => 0))), (q31, .inl (cy 0, 24, .inl (fun _ => 0))), (q39, .inl (cy 0, 24, .inl (fun _ => 0)))] H := hP
  have hD : va_D A [(h0, .inr (2, [.ref q7, .ref q15, .ref q23, .ref q31, .null, .null, .int 0])), (q7, .inl (cy 0, 6, .inl (fun _ => 0))), (q15, .inl (cy 0, 24, .inl (fun _ => 0))), (q23, .inl (cy 0, 24, .inl (fun _ => 0))), (q31, .inl (cy 0, 24, .inl (fun _ => 0))), (q39, .inl (cy 0, 24, .inl (fun _ => 0)))] := hD
  refine W.widen (k := 5) (n := 102) (Nat.le_of_ble_eq_true rfl) (Nat.le_of_ble_eq_true rfl) ?_
  refine va_putF (D := D) (ci := 2) (v := .ref q39) (ty := (.array .int)) (C := RX3) (T := TX3) (N := 7) hx hb hts zi_X3 tyX3 tyX3_ok nmX3 hown hK hP hD hS 0 rfl rfl 4 (by decide) (hts _ wd_141) (fun _ h9 => h9) rfl hin rfl (by decide +kernel) rfl rfl (Nat.le_of_ble_eq_true rfl) dd_X3_init_41 (fun H locs hP hD hS => ?_)
  have hP : va_P D vwCl [(h0, .inr (2, [.ref q7, .ref q15, .ref q23, .ref q31, .ref q39, .null, .int 0])), (q7, .inl (cy 0, 6, .inl (fun _ => 0))), (q15, .inl (cy 0, 24, .inl (fun _ => 0))), (q23, .inl (cy 0, 24, .inl (fun _ => 0))), (q31, .inl (cy 0, 24, .inl (fun _ => 0))), (q39, .inl (cy 0, 24, .inl (fun _ => 0)))] H := hP
  have hD : va_D A [(h0, .inr (2, [.ref q7, .ref q15, .ref q23, .ref q31, .ref q39, .null, .int 0])), (q7, .inl (cy 0, 6, .inl (fun _ => 0))), (q15, .inl (cy 0, 24, .inl (fun _ => 0))), (q23, .inl (cy 0, 24, .inl (fun _ => 0))), (q31, .inl (cy 0, 24, .inl (fun _ => 0))), (q39, .inl (cy 0, 24, .inl (fun _ => 0)))] := hD
  refine lv_aload_n hx hb dd_X3_init_44 rfl (lv_at hl 0 rfl) ?_
  refine lv_bipush (v := 24) hx hb dd_X3_init_45 (by decide) ?_
  refine zc_newa0 (N := 24) hx hb (hts _ wd_160) hK hP hD hS hA (by decide) (by decide) (by decide) (Nat.le_of_ble_eq_true rfl) (Nat.le_of_ble_eq_true rfl) dd_X3_init_47 (fun q47 H hP hD hS => ?_)
  have hP : va_P D vwCl [(h0, .inr (2, [.ref q7, .ref q15, .ref q23, .ref q31, .ref q39, .null, .int 0])), (q7, .inl (cy 0, 6, .inl (fun _ => 0))), (q15, .inl (cy 0, 24, .inl (fun _ => 0))), (q23, .inl (cy 0, 24, .inl (fun _ => 0))), (q31, .inl (cy 0, 24, .inl (fun _ => 0))), (q39, .inl (cy 0, 24, .inl (fun _ => 0))), (q47, .inl (cy 0, 24, .inl (fun _ => 0)))] H := hP
  have hD : va_D A [(h0, .inr (2, [.ref q7, .ref q15, .ref q23, .ref q31, .ref q39, .null, .int 0])), (q7, .inl (cy 0, 6, .inl (fun _ => 0))), (q15, .inl (cy 0, 24, .inl (fun _ => 0))), (q23, .inl (cy 0, 24, .inl (fun _ => 0))), (q31, .inl (cy 0, 24, .inl (fun _ => 0))), (q39, .inl (cy 0, 24, .inl (fun _ => 0))), (q47, .inl (cy 0, 24, .inl (fun _ => 0)))] := hD
  refine W.widen (k := 6) (n := 126) (Nat.le_of_ble_eq_true rfl) (Nat.le_of_ble_eq_true rfl) ?_
  refine va_putF (D := D) (ci := 2) (v := .ref q47) (ty := (.array .int)) (C := RX3) (T := TX3) (N := 7) hx hb hts zi_X3 tyX3 tyX3_ok nmX3 hown hK hP hD hS 0 rfl rfl 5 (by decide) (hts _ wd_142) (fun _ h9 => h9) rfl hin rfl (by decide +kernel) rfl rfl (Nat.le_of_ble_eq_true rfl) dd_X3_init_49 (fun H locs hP hD hS => ?_)
  have hP : va_P D vwCl [(h0, .inr (2, [.ref q7, .ref q15, .ref q23, .ref q31, .ref q39, .ref q47, .int 0])), (q7, .inl (cy 0, 6, .inl (fun _ => 0))), (q15, .inl (cy 0, 24, .inl (fun _ => 0))), (q23, .inl (cy 0, 24, .inl (fun _ => 0))), (q31, .inl (cy 0, 24, .inl (fun _ => 0))), (q39, .inl (cy 0, 24, .inl (fun _ => 0))), (q47, .inl (cy 0, 24, .inl (fun _ => 0)))] H := hP
  have hD : va_D A [(h0, .inr (2, [.ref q7, .ref q15, .ref q23, .ref q31, .ref q39, .ref q47, .int 0])), (q7, .inl (cy 0, 6, .inl (fun _ => 0))), (q15, .inl (cy 0, 24, .inl (fun _ => 0))), (q23, .inl (cy 0, 24, .inl (fun _ => 0))), (q31, .inl (cy 0, 24, .inl (fun _ => 0))), (q39, .inl (cy 0, 24, .inl (fun _ => 0))), (q47, .inl (cy 0, 24, .inl (fun _ => 0)))] := hD
  refine lv_aload_n hx hb dd_X3_init_52 rfl (lv_at hl 0 rfl) ?_
  refine lv_iconst (v := 0) hx hb dd_X3_init_53 (by decide) ?_
  refine va_put (D := D) (ci := 2) (v := .int 0) (ty := (.int)) (C := RX3) (T := TX3) (N := 7) hx hb hts zi_X3 tyX3 tyX3_ok nmX3 hown hK hP hD hS 0 rfl rfl 6 (by decide) (hts _ wd_143) (fun _ h9 => h9) rfl (by decide +kernel) rfl rfl (Nat.le_of_ble_eq_true rfl) dd_X3_init_54 (fun H locs hP hD hS => ?_)
  have hP : va_P D vwCl [(h0, .inr (2, [.ref q7, .ref q15, .ref q23, .ref q31, .ref q39, .ref q47, .int 0])), (q7, .inl (cy 0, 6, .inl (fun _ => 0))), (q15, .inl (cy 0, 24, .inl (fun _ => 0))), (q23, .inl (cy 0, 24, .inl (fun _ => 0))), (q31, .inl (cy 0, 24, .inl (fun _ => 0))), (q39, .inl (cy 0, 24, .inl (fun _ => 0))), (q47, .inl (cy 0, 24, .inl (fun _ => 0)))] H := hP
  have hD : va_D A [(h0, .inr (2, [.ref q7, .ref q15, .ref q23, .ref q31, .ref q39, .ref q47, .int 0])), (q7, .inl (cy 0, 6, .inl (fun _ => 0))), (q15, .inl (cy 0, 24, .inl (fun _ => 0))), (q23, .inl (cy 0, 24, .inl (fun _ => 0))), (q31, .inl (cy 0, 24, .inl (fun _ => 0))), (q39, .inl (cy 0, 24, .inl (fun _ => 0))), (q47, .inl (cy 0, 24, .inl (fun _ => 0)))] := hD
  exact W.vret hx hb hr (fun t ht hW => ⟨⟨(), rfl, trivial, q7, q15, q23, q31, q39, q47, by rw [ht]; exact hP, hD⟩, hS.F ht⟩) hS.2.2 dd_X3_init_57 hlocks
theorem dd_X4_init_0 : decode cX4_init 0 = .ok (.aload_n 0, 1) := by decide +kernel
theorem dd_X4_init_1 : decode cX4_init 1 = .ok (.invokespecial 3, 3) := by decide +kernel
theorem dd_X4_init_4 : decode cX4_init 4 = .ok (.aload_n 0, 1) := by decide +kernel
theorem dd_X4_init_5 : decode cX4_init 5 = .ok (.bipush 6, 2) := by decide +kernel
theorem dd_X4_init_7 : decode cX4_init 7 = .ok (.newarray .int, 2) := by decide +kernel
theorem dd_X4_init_9 : decode cX4_init 9 = .ok (.putfield 9, 3) := by decide +kernel
theorem dd_X4_init_12 : decode cX4_init 12 = .ok (.aload_n 0, 1) := by decide +kernel
theorem dd_X4_init_13 : decode cX4_init 13 = .ok (.iconst 0, 1) := by decide +kernel
theorem dd_X4_init_14 : decode cX4_init 14 = .ok (.putfield 15, 3) := by decide +kernel
theorem dd_X4_init_17 : decode cX4_init 17 = .ok (.return_, 1) := by decide +kernel
def rm_X4 : Room := { frames := 1, cells := 1, slots := 6, locals := 40 }
def ciB_X4 (D : va_G) (cy : Nat → ClassId) (h0 : Nat) (A : Nat → Prop) (t : State) : Prop := ∃ q7 : Nat, va_P D vwCl [(h0, .inr (3, [.ref q7, .int 0])), (q7, .inl (cy 0, 6, .inl (fun _ => 0)))] t.heap ∧ va_D A [(h0, .inr (3, [.ref q7, .int 0])), (q7, .inl (cy 0, 6, .inl (fun _ => 0)))]
set_option maxRecDepth 100000 in
set_option maxHeartbeats 4000000 in
theorem ci_X4 (l : Launch) (D : va_G) (cy : Nat → ClassId) (h0 sz : Nat) : Met l yX4_init (zws yX4_init cX4_init 1 none) rm_X4 (ciP D cy h0 sz (.inr (3, [.null, .int 0]))) (va_Qv (fun _ : Unit => True) (fun _ t => ciB_X4 D cy h0 (va_A [(h0, .inr (3, [.null, .int 0]))] sz) t) (va_A [(h0, .inr (3, [.null, .int 0]))] sz)) 1 6 (va_A [(h0, .inr (3, [.null, .int 0]))] sz) := by
  refine Met.ofW (cc := cX4_init) (maxL := 1) (ret := none) (ws := zws yX4_init cX4_init 1 none) (ws' := zW) (by decide) rfl ?_
  intro p e s m args below meth c s₁ B hml hv
  obtain ⟨rfl, hsz, hP, hK, hD0, hN, hO⟩ := hv
  have hx := B.exec
  have hb := B.bytes
  have hr := B.returns
  have hts : ∀ w ∈ zW, w.before _ s = true := fun w hw => atoms_spec (ws := zws yX4_init cX4_init 1 none) B.pre w (List.mem_cons_of_mem _ hw)
  have hown : s.vm.findClass RX4 = some m.cls := findClass_of_methodNamed B.named
  have hlocks := B.notSynchronized
  have hin : meth.name = "<init>" := (name_of_methodNamed B.named B.method).1
  subst hsz
  have hD := hD0.self (sz := s.heap.size)
  unfold ciB_X4
  generalize hAe : va_A [(h0, .inr (3, [.null, .int 0]))] s.heap.size = A at hD ⊢
  have hA : ∀ q : Nat, s.heap.size ≤ q → A q := fun q h => by rw [← hAe]; exact Or.inr h
  have hS : va_S A s.heap s.heap [] := va_S.rf
  have hl := lv_entry ([.ref h0]) (n := 1) (Nat.le_of_ble_eq_true rfl)
  rw [lg_entry_eq]
  generalize (lg_sl ([.ref h0]) ++ List.replicate (1 - (lg_sl ([.ref h0])).length) Slot.unset).toArray = ls at hl ⊢
  have hl : lv_has ls 1 [(0, .ref h0)] := hl
  refine lv_aload_n hx hb dd_X4_init_0 rfl (lv_at hl 0 rfl) ?_
  refine W.objInit hx hb hown (hts _ wd_166) (hts _ wd_122) (hts _ wd_123) rfl (by rw [hml]; exact hl.1) rfl dd_X4_init_1 (Nat.le_of_ble_eq_true rfl) (Nat.le_of_ble_eq_true rfl) ?_
  refine W.eq (g2 := F0 m 4 ls []) rfl ?_
  refine lv_aload_n hx hb dd_X4_init_4 rfl (lv_at hl 0 rfl) ?_
  refine lv_bipush (v := 6) hx hb dd_X4_init_5 (by decide) ?_
  refine zc_newa0 (N := 6) hx hb (hts _ wd_160) hK hP hD hS hA (by decide) (by decide) (by decide) (Nat.le_of_ble_eq_true rfl) (Nat.le_of_ble_eq_true rfl) dd_X4_init_7 (fun q7 H hP hD hS => ?_)
  have hP : va_P D vwCl [(h0, .inr (3, [.null, .int 0])), (q7, .inl (cy 0, 6, .inl (fun _ => 0)))] H := hP
  have hD : va_D A [(h0, .inr (3, [.null, .int 0])), (q7, .inl (cy 0, 6, .inl (fun _ => 0)))] := hD
  refine W.widen (k := 1) (n := 6) (Nat.le_of_ble_eq_true rfl) (Nat.le_of_ble_eq_true rfl) ?_
  refine va_putF (D := D) (ci := 3) (v := .ref q7) (ty := (.array .int)) (C := RX4) (T := TX4) (N := 2) hx hb hts zi_X4 tyX4 tyX4_ok nmX4 hown hK hP hD hS 0 rfl rfl 0 (by decide) (hts _ wd_167) (fun _ h9 => h9) rfl hin rfl (by decide +kernel) rfl rfl (Nat.le_of_ble_eq_true rfl) dd_X4_init_9 (fun H locs hP hD hS => ?_)
  have hP : va_P D vwCl [(h0, .inr (3, [.ref q7, .int 0])), (q7, .inl (cy 0, 6, .inl (fun _ => 0)))] H := hP
  have hD : va_D A [(h0, .inr (3, [.ref q7, .int 0])), (q7, .inl (cy 0, 6, .inl (fun _ => 0)))] := hD
  refine lv_aload_n hx hb dd_X4_init_12 rfl (lv_at hl 0 rfl) ?_
  refine lv_iconst (v := 0) hx hb dd_X4_init_13 (by decide) ?_
  refine va_put (D := D) (ci := 3) (v := .int 0) (ty := (.int)) (C := RX4) (T := TX4) (N := 2) hx hb hts zi_X4 tyX4 tyX4_ok nmX4 hown hK hP hD hS 0 rfl rfl 1 (by decide) (hts _ wd_168) (fun _ h9 => h9) rfl (by decide +kernel) rfl rfl (Nat.le_of_ble_eq_true rfl) dd_X4_init_14 (fun H locs hP hD hS => ?_)
  have hP : va_P D vwCl [(h0, .inr (3, [.ref q7, .int 0])), (q7, .inl (cy 0, 6, .inl (fun _ => 0)))] H := hP
  have hD : va_D A [(h0, .inr (3, [.ref q7, .int 0])), (q7, .inl (cy 0, 6, .inl (fun _ => 0)))] := hD
  exact W.vret hx hb hr (fun t ht hW => ⟨⟨(), rfl, trivial, q7, by rw [ht]; exact hP, hD⟩, hS.F ht⟩) hS.2.2 dd_X4_init_17 hlocks
theorem dd_X0_init_0 : decode cX0_init 0 = .ok (.aload_n 0, 1) := by decide +kernel
theorem dd_X0_init_1 : decode cX0_init 1 = .ok (.invokespecial 3, 3) := by decide +kernel
theorem dd_X0_init_4 : decode cX0_init 4 = .ok (.aload_n 0, 1) := by decide +kernel
theorem dd_X0_init_5 : decode cX0_init 5 = .ok (.bipush 6, 2) := by decide +kernel
theorem dd_X0_init_7 : decode cX0_init 7 = .ok (.newarray .int, 2) := by decide +kernel
theorem dd_X0_init_9 : decode cX0_init 9 = .ok (.putfield 9, 3) := by decide +kernel
theorem dd_X0_init_12 : decode cX0_init 12 = .ok (.aload_n 0, 1) := by decide +kernel
theorem dd_X0_init_13 : decode cX0_init 13 = .ok (.bipush 6, 2) := by decide +kernel
theorem dd_X0_init_15 : decode cX0_init 15 = .ok (.newarray .int, 2) := by decide +kernel
theorem dd_X0_init_17 : decode cX0_init 17 = .ok (.putfield 15, 3) := by decide +kernel
theorem dd_X0_init_20 : decode cX0_init 20 = .ok (.aload_n 0, 1) := by decide +kernel
theorem dd_X0_init_21 : decode cX0_init 21 = .ok (.bipush 6, 2) := by decide +kernel
theorem dd_X0_init_23 : decode cX0_init 23 = .ok (.newarray .int, 2) := by decide +kernel
theorem dd_X0_init_25 : decode cX0_init 25 = .ok (.putfield 18, 3) := by decide +kernel
theorem dd_X0_init_28 : decode cX0_init 28 = .ok (.aload_n 0, 1) := by decide +kernel
theorem dd_X0_init_29 : decode cX0_init 29 = .ok (.bipush 6, 2) := by decide +kernel
theorem dd_X0_init_31 : decode cX0_init 31 = .ok (.newarray .int, 2) := by decide +kernel
theorem dd_X0_init_33 : decode cX0_init 33 = .ok (.putfield 21, 3) := by decide +kernel
theorem dd_X0_init_36 : decode cX0_init 36 = .ok (.aload_n 0, 1) := by decide +kernel
theorem dd_X0_init_37 : decode cX0_init 37 = .ok (.iconst 0, 1) := by decide +kernel
theorem dd_X0_init_38 : decode cX0_init 38 = .ok (.putfield 24, 3) := by decide +kernel
theorem dd_X0_init_41 : decode cX0_init 41 = .ok (.return_, 1) := by decide +kernel
def rm_X0 : Room := { frames := 1, cells := 4, slots := 24, locals := 40 }
def ciB_X0 (D : va_G) (cy : Nat → ClassId) (h0 : Nat) (A : Nat → Prop) (t : State) : Prop := ∃ q7 q15 q23 q31 : Nat, va_P D vwCl [(h0, .inr (0, [.ref q7, .ref q15, .ref q23, .ref q31, .int 0])), (q7, .inl (cy 0, 6, .inl (fun _ => 0))), (q15, .inl (cy 0, 6, .inl (fun _ => 0))), (q23, .inl (cy 0, 6, .inl (fun _ => 0))), (q31, .inl (cy 0, 6, .inl (fun _ => 0)))] t.heap ∧ va_D A [(h0, .inr (0, [.ref q7, .ref q15, .ref q23, .ref q31, .int 0])), (q7, .inl (cy 0, 6, .inl (fun _ => 0))), (q15, .inl (cy 0, 6, .inl (fun _ => 0))), (q23, .inl (cy 0, 6, .inl (fun _ => 0))), (q31, .inl (cy 0, 6, .inl (fun _ => 0)))]
set_option maxRecDepth 100000 in
set_option maxHeartbeats 4000000 in
theorem ci_X0 (l : Launch) (D : va_G) (cy : Nat → ClassId) (h0 sz : Nat) : Met l yX0_init (zws yX0_init cX0_init 1 none) rm_X0 (ciP D cy h0 sz (.inr (0, [.null, .null, .null, .null, .int 0]))) (va_Qv (fun _ : Unit => True) (fun _ t => ciB_X0 D cy h0 (va_A [(h0, .inr (0, [.null, .null, .null, .null, .int 0]))] sz) t) (va_A [(h0, .inr (0, [.null, .null, .null, .null, .int 0]))] sz)) 4 24 (va_A [(h0, .inr (0, [.null, .null, .null, .null, .int 0]))] sz) := by
  refine Met.ofW (cc := cX0_init) (maxL := 1) (ret := none) (ws := zws yX0_init cX0_init 1 none) (ws' := zW) (by decide) rfl ?_
  intro p e s m args below meth c s₁ B hml hv
  obtain ⟨rfl, hsz, hP, hK, hD0, hN, hO⟩ := hv
  have hx := B.exec
  have hb := B.bytes
  have hr := B.returns
  have hts : ∀ w ∈ zW, w.before _ s = true := fun w hw => atoms_spec (ws := zws yX0_init cX0_init 1 none) B.pre w (List.mem_cons_of_mem _ hw)
  have hown : s.vm.findClass RX0 = some m.cls := findClass_of_methodNamed B.named
  have hlocks := B.notSynchronized
  have hin : meth.name = "<init>" := (name_of_methodNamed B.named B.method).1
  subst hsz
  have hD := hD0.self (sz := s.heap.size)
  unfold ciB_X0
  generalize hAe : va_A [(h0, .inr (0, [.null, .null, .null, .null, .int 0]))] s.heap.size = A at hD ⊢
  have hA : ∀ q : Nat, s.heap.size ≤ q → A q := fun q h => by rw [← hAe]; exact Or.inr h
  have hS : va_S A s.heap s.heap [] := va_S.rf
  have hl := lv_entry ([.ref h0]) (n := 1) (Nat.le_of_ble_eq_true rfl)
  rw [lg_entry_eq]
  generalize (lg_sl ([.ref h0]) ++ List.replicate (1 - (lg_sl ([.ref h0])).length) Slot.unset).toArray = ls at hl ⊢
  have hl : lv_has ls 1 [(0, .ref h0)] := hl
  refine lv_aload_n hx hb dd_X0_init_0 rfl (lv_at hl 0 rfl) ?_
  refine W.objInit hx hb hown (hts _ wd_181) (hts _ wd_122) (hts _ wd_123) rfl (by rw [hml]; exact hl.1) rfl dd_X0_init_1 (Nat.le_of_ble_eq_true rfl) (Nat.le_of_ble_eq_true rfl) ?_
  refine W.eq (g2 := F0 m 4 ls []) rfl ?_
  refine lv_aload_n hx hb dd_X0_init_4 rfl (lv_at hl 0 rfl) ?_
  refine lv_bipush (v := 6) hx hb dd_X0_init_5 (by decide) ?_
  refine zc_newa0 (N := 6) hx hb (hts _ wd_160) hK hP hD hS hA (by decide) (by decide) (by decide) (Nat.le_of_ble_eq_true rfl) (Nat.le_of_ble_eq_true rfl) dd_X0_init_7 (fun q7 H hP hD hS => ?_)
  have hP : va_P D vwCl [(h0, .inr (0, [.null, .null, .null, .null, .int 0])), (q7, .inl (cy 0, 6, .inl (fun _ => 0)))] H := hP
  have hD : va_D A [(h0, .inr (0, [.null, .null, .null, .null, .int 0])), (q7, .inl (cy 0, 6, .inl (fun _ => 0)))] := hD
  refine W.widen (k := 1) (n := 6) (Nat.le_of_ble_eq_true rfl) (Nat.le_of_ble_eq_true rfl) ?_
  refine va_putF (D := D) (ci := 0) (v := .ref q7) (ty := (.array .int)) (C := RX0) (T := TX0) (N := 5) hx hb hts zi_X0 tyX0 tyX0_ok nmX0 hown hK hP hD hS 0 rfl rfl 0 (by decide) (hts _ wd_182) (fun _ h9 => h9) rfl hin rfl (by decide +kernel) rfl rfl (Nat.le_of_ble_eq_true rfl) dd_X0_init_9 (fun H locs hP hD hS => ?_)
  have hP : va_P D vwCl [(h0, .inr (0, [.ref q7, .null, .null, .null, .int 0])), (q7, .inl (cy 0, 6, .inl (fun _ => 0)))] H := hP
  have hD : va_D A [(h0, .inr (0, [.ref q7, .null, .null, .null, .int 0])), (q7, .inl (cy 0, 6, .inl (fun _ => 0)))] := hD
  refine lv_aload_n hx hb dd_X0_init_12 rfl (lv_at hl 0 rfl) ?_
  refine lv_bipush (v := 6) hx hb dd_X0_init_13 (by decide) ?_
  refine zc_newa0 (N := 6) hx hb (hts _ wd_160) hK hP hD hS hA (by decide) (by decide) (by decide) (Nat.le_of_ble_eq_true rfl) (Nat.le_of_ble_eq_true rfl) dd_X0_init_15 (fun q15 H hP hD hS => ?_)
  have hP : va_P D vwCl [(h0, .inr (0, [.ref q7, .null, .null, .null, .int 0])), (q7, .inl (cy 0, 6, .inl (fun _ => 0))), (q15, .inl (cy 0, 6, .inl (fun _ => 0)))] H := hP
  have hD : va_D A [(h0, .inr (0, [.ref q7, .null, .null, .null, .int 0])), (q7, .inl (cy 0, 6, .inl (fun _ => 0))), (q15, .inl (cy 0, 6, .inl (fun _ => 0)))] := hD
  refine W.widen (k := 2) (n := 12) (Nat.le_of_ble_eq_true rfl) (Nat.le_of_ble_eq_true rfl) ?_
  refine va_putF (D := D) (ci := 0) (v := .ref q15) (ty := (.array .int)) (C := RX0) (T := TX0) (N := 5) hx hb hts zi_X0 tyX0 tyX0_ok nmX0 hown hK hP hD hS 0 rfl rfl 1 (by decide) (hts _ wd_183) (fun _ h9 => h9) rfl hin rfl (by decide +kernel) rfl rfl (Nat.le_of_ble_eq_true rfl) dd_X0_init_17 (fun H locs hP hD hS => ?_)
  have hP : va_P D vwCl [(h0, .inr (0, [.ref q7, .ref q15, .null, .null, .int 0])), (q7, .inl (cy 0, 6, .inl (fun _ => 0))), (q15, .inl (cy 0, 6, .inl (fun _ => 0)))] H := hP
  have hD : va_D A [(h0, .inr (0, [.ref q7, .ref q15, .null, .null, .int 0])), (q7, .inl (cy 0, 6, .inl (fun _ => 0))), (q15, .inl (cy 0, 6, .inl (fun _ => 0)))] := hD
  refine lv_aload_n hx hb dd_X0_init_20 rfl (lv_at hl 0 rfl) ?_
  refine lv_bipush (v := 6) hx hb dd_X0_init_21 (by decide) ?_
  refine zc_newa0 (N := 6) hx hb (hts _ wd_160) hK hP hD hS hA (by decide) (by decide) (by decide) (Nat.le_of_ble_eq_true rfl) (Nat.le_of_ble_eq_true rfl) dd_X0_init_23 (fun q23 H hP hD hS => ?_)
  have hP : va_P D vwCl [(h0, .inr (0, [.ref q7, .ref q15, .null, .null, .int 0])), (q7, .inl (cy 0, 6, .inl (fun _ => 0))), (q15, .inl (cy 0, 6, .inl (fun _ => 0))), (q23, .inl (cy 0, 6, .inl (fun _ => 0)))] H := hP
  have hD : va_D A [(h0, .inr (0, [.ref q7, .ref q15, .null, .null, .int 0])), (q7, .inl (cy 0, 6, .inl (fun _ => 0))), (q15, .inl (cy 0, 6, .inl (fun _ => 0))), (q23, .inl (cy 0, 6, .inl (fun _ => 0)))] := hD
  refine W.widen (k := 3) (n := 18) (Nat.le_of_ble_eq_true rfl) (Nat.le_of_ble_eq_true rfl) ?_
  refine va_putF (D := D) (ci := 0) (v := .ref q23) (ty := (.array .int)) (C := RX0) (T := TX0) (N := 5) hx hb hts zi_X0 tyX0 tyX0_ok nmX0 hown hK hP hD hS 0 rfl rfl 2 (by decide) (hts _ wd_184) (fun _ h9 => h9) rfl hin rfl (by decide +kernel) rfl rfl (Nat.le_of_ble_eq_true rfl) dd_X0_init_25 (fun H locs hP hD hS => ?_)
  have hP : va_P D vwCl [(h0, .inr (0, [.ref q7, .ref q15, .ref q23, .null, .int 0])), (q7, .inl (cy 0, 6, .inl (fun _ => 0))), (q15, .inl (cy 0, 6, .inl (fun _ => 0))), (q23, .inl (cy 0, 6, .inl (fun _ => 0)))] H := hP
  have hD : va_D A [(h0, .inr (0, [.ref q7, .ref q15, .ref q23, .null, .int 0])), (q7, .inl (cy 0, 6, .inl (fun _ => 0))), (q15, .inl (cy 0, 6, .inl (fun _ => 0))), (q23, .inl (cy 0, 6, .inl (fun _ => 0)))] := hD
  refine lv_aload_n hx hb dd_X0_init_28 rfl (lv_at hl 0 rfl) ?_
  refine lv_bipush (v := 6) hx hb dd_X0_init_29 (by decide) ?_
  refine zc_newa0 (N := 6) hx hb (hts _ wd_160) hK hP hD hS hA (by decide) (by decide) (by decide) (Nat.le_of_ble_eq_true rfl) (Nat.le_of_ble_eq_true rfl) dd_X0_init_31 (fun q31 H hP hD hS => ?_)
  have hP : va_P D vwCl [(h0, .inr (0, [.ref q7, .ref q15, .ref q23, .null, .int 0])), (q7, .inl (cy 0, 6, .inl (fun _ => 0))), (q15, .inl (cy 0, 6, .inl (fun _ => 0))), (q23, .inl (cy 0, 6, .inl (fun _ => 0))), (q31, .inl (cy 0, 6, .inl (fun _ => 0)))] H := hP
  have hD : va_D A [(h0, .inr (0, [.ref q7, .ref q15, .ref q23, .null, .int 0])), (q7, .inl (cy 0, 6, .inl (fun _ => 0))), (q15, .inl (cy 0, 6, .inl (fun _ => 0))), (q23, .inl (cy 0, 6, .inl (fun _ => 0))), (q31, .inl (cy 0, 6, .inl (fun _ => 0)))] := hD
  refine W.widen (k := 4) (n := 24) (Nat.le_of_ble_eq_true rfl) (Nat.le_of_ble_eq_true rfl) ?_
  refine va_putF (D := D) (ci := 0) (v := .ref q31) (ty := (.array .int)) (C := RX0) (T := TX0) (N := 5) hx hb hts zi_X0 tyX0 tyX0_ok nmX0 hown hK hP hD hS 0 rfl rfl 3 (by decide) (hts _ wd_185) (fun _ h9 => h9) rfl hin rfl (by decide +kernel) rfl rfl (Nat.le_of_ble_eq_true rfl) dd_X0_init_33 (fun H locs hP hD hS => ?_)
  have hP : va_P D vwCl [(h0, .inr (0, [.ref q7, .ref q15, .ref q23, .ref q31, .int 0])), (q7, .inl (cy 0, 6, .inl (fun _ => 0))), (q15, .inl (cy 0, 6, .inl (fun _ => 0))), (q23, .inl (cy 0, 6, .inl (fun _ => 0))), (q31, .inl (cy 0, 6, .inl (fun _ => 0)))] H := hP
  have hD : va_D A [(h0, .inr (0, [.ref q7, .ref q15, .ref q23, .ref q31, .int 0])), (q7, .inl (cy 0, 6, .inl (fun _ => 0))), (q15, .inl (cy 0, 6, .inl (fun _ => 0))), (q23, .inl (cy 0, 6, .inl (fun _ => 0))), (q31, .inl (cy 0, 6, .inl (fun _ => 0)))] := hD
  refine lv_aload_n hx hb dd_X0_init_36 rfl (lv_at hl 0 rfl) ?_
  refine lv_iconst (v := 0) hx hb dd_X0_init_37 (by decide) ?_
  refine va_put (D := D) (ci := 0) (v := .int 0) (ty := (.int)) (C := RX0) (T := TX0) (N := 5) hx hb hts zi_X0 tyX0 tyX0_ok nmX0 hown hK hP hD hS 0 rfl rfl 4 (by decide) (hts _ wd_186) (fun _ h9 => h9) rfl (by decide +kernel) rfl rfl (Nat.le_of_ble_eq_true rfl) dd_X0_init_38 (fun H locs hP hD hS => ?_)
  have hP : va_P D vwCl [(h0, .inr (0, [.ref q7, .ref q15, .ref q23, .ref q31, .int 0])), (q7, .inl (cy 0, 6, .inl (fun _ => 0))), (q15, .inl (cy 0, 6, .inl (fun _ => 0))), (q23, .inl (cy 0, 6, .inl (fun _ => 0))), (q31, .inl (cy 0, 6, .inl (fun _ => 0)))] H := hP
  have hD : va_D A [(h0, .inr (0, [.ref q7, .ref q15, .ref q23, .ref q31, .int 0])), (q7, .inl (cy 0, 6, .inl (fun _ => 0))), (q15, .inl (cy 0, 6, .inl (fun _ => 0))), (q23, .inl (cy 0, 6, .inl (fun _ => 0))), (q31, .inl (cy 0, 6, .inl (fun _ => 0)))] := hD
  exact W.vret hx hb hr (fun t ht hW => ⟨⟨(), rfl, trivial, q7, q15, q23, q31, by rw [ht]; exact hP, hD⟩, hS.F ht⟩) hS.2.2 dd_X0_init_41 hlocks
theorem dd_X2_init_0 : decode cX2_init 0 = .ok (.aload_n 0, 1) := by decide +kernel
theorem dd_X2_init_1 : decode cX2_init 1 = .ok (.invokespecial 1, 3) := by decide +kernel
theorem dd_X2_init_4 : decode cX2_init 4 = .ok (.aload_n 0, 1) := by decide +kernel
theorem dd_X2_init_5 : decode cX2_init 5 = .ok (.new 7, 3) := by decide +kernel
theorem dd_X2_init_8 : decode cX2_init 8 = .ok (.dup, 1) := by decide +kernel
theorem dd_X2_init_9 : decode cX2_init 9 = .ok (.invokespecial 9, 3) := by decide +kernel
theorem dd_X2_init_12 : decode cX2_init 12 = .ok (.putfield 10, 3) := by decide +kernel
theorem dd_X2_init_15 : decode cX2_init 15 = .ok (.aload_n 0, 1) := by decide +kernel
theorem dd_X2_init_16 : decode cX2_init 16 = .ok (.new 16, 3) := by decide +kernel
theorem dd_X2_init_19 : decode cX2_init 19 = .ok (.dup, 1) := by decide +kernel
theorem dd_X2_init_20 : decode cX2_init 20 = .ok (.invokespecial 18, 3) := by decide +kernel
theorem dd_X2_init_23 : decode cX2_init 23 = .ok (.putfield 19, 3) := by decide +kernel
theorem dd_X2_init_26 : decode cX2_init 26 = .ok (.aload_n 0, 1) := by decide +kernel
theorem dd_X2_init_27 : decode cX2_init 27 = .ok (.new 23, 3) := by decide +kernel
theorem dd_X2_init_30 : decode cX2_init 30 = .ok (.dup, 1) := by decide +kernel
theorem dd_X2_init_31 : decode cX2_init 31 = .ok (.invokespecial 25, 3) := by decide +kernel
theorem dd_X2_init_34 : decode cX2_init 34 = .ok (.putfield 26, 3) := by decide +kernel
theorem dd_X2_init_37 : decode cX2_init 37 = .ok (.return_, 1) := by decide +kernel
def rm_X2 : Room := { frames := 2, cells := 14, slots := 170, locals := 80 }
def ciB_X2 (D : va_G) (cy : Nat → ClassId) (h0 : Nat) (A : Nat → Prop) (t : State) : Prop := ∃ q5 r1_q7 r1_q15 r1_q23 r1_q31 r1_q39 r1_q47 q16 r2_q7 q27 r3_q7 r3_q15 r3_q23 r3_q31 : Nat, va_P D vwCl [(h0, .inr (1, [.ref q5, .ref q16, .ref q27])), (q5, .inr (2, [.ref r1_q7, .ref r1_q15, .ref r1_q23, .ref r1_q31, .ref r1_q39, .ref r1_q47, .int 0])), (r1_q7, .inl (cy 0, 6, .inl (fun _ => 0))), (r1_q15, .inl (cy 0, 24, .inl (fun _ => 0))), (r1_q23, .inl (cy 0, 24, .inl (fun _ => 0))), (r1_q31, .inl (cy 0, 24, .inl (fun _ => 0))), (r1_q39, .inl (cy 0, 24, .inl (fun _ => 0))), (r1_q47, .inl (cy 0, 24, .inl (fun _ => 0))), (q16, .inr (3, [.ref r2_q7, .int 0])), (r2_q7, .inl (cy 0, 6, .inl (fun _ => 0))), (q27, .inr (0, [.ref r3_q7, .ref r3_q15, .ref r3_q23, .ref r3_q31, .int 0])), (r3_q7, .inl (cy 0, 6, .inl (fun _ => 0))), (r3_q15, .inl (cy 0, 6, .inl (fun _ => 0))), (r3_q23, .inl (cy 0, 6, .inl (fun _ => 0))), (r3_q31, .inl (cy 0, 6, .inl (fun _ => 0)))] t.heap ∧ va_D A [(h0, .inr (1, [.ref q5, .ref q16, .ref q27])), (q5, .inr (2, [.ref r1_q7, .ref r1_q15, .ref r1_q23, .ref r1_q31, .ref r1_q39, .ref r1_q47, .int 0])), (r1_q7, .inl (cy 0, 6, .inl (fun _ => 0))), (r1_q15, .inl (cy 0, 24, .inl (fun _ => 0))), (r1_q23, .inl (cy 0, 24, .inl (fun _ => 0))), (r1_q31, .inl (cy 0, 24, .inl (fun _ => 0))), (r1_q39, .inl (cy 0, 24, .inl (fun _ => 0))), (r1_q47, .inl (cy 0, 24, .inl (fun _ => 0))), (q16, .inr (3, [.ref r2_q7, .int 0])), (r2_q7, .inl (cy 0, 6, .inl (fun _ => 0))), (q27, .inr (0, [.ref r3_q7, .ref r3_q15, .ref r3_q23, .ref r3_q31, .int 0])), (r3_q7, .inl (cy 0, 6, .inl (fun _ => 0))), (r3_q15, .inl (cy 0, 6, .inl (fun _ => 0))), (r3_q23, .inl (cy 0, 6, .inl (fun _ => 0))), (r3_q31, .inl (cy 0, 6, .inl (fun _ => 0)))]
set_option maxRecDepth 100000 in
set_option maxHeartbeats 4000000 in
theorem ci_X2 (l : Launch) (D : va_G) (cy : Nat → ClassId) (h0 sz : Nat) : Met l yX2_init (zws yX2_init cX2_init 1 none) rm_X2 (ciP D cy h0 sz (.inr (1, [.null, .null, .null]))) (va_Qv (fun _ : Unit => True) (fun _ t => ciB_X2 D cy h0 (va_A [(h0, .inr (1, [.null, .null, .null]))] sz) t) (va_A [(h0, .inr (1, [.null, .null, .null]))] sz)) 14 170 (va_A [(h0, .inr (1, [.null, .null, .null]))] sz) := by
  refine Met.ofW (cc := cX2_init) (maxL := 1) (ret := none) (ws := zws yX2_init cX2_init 1 none) (ws' := zW) (by decide) rfl ?_
  intro p e s m args below meth c s₁ B hml hv
  obtain ⟨rfl, hsz, hP, hK, hD0, hN, hO⟩ := hv
  have hx := B.exec
  have hb := B.bytes
  have hr := B.returns
  have hts : ∀ w ∈ zW, w.before _ s = true := fun w hw => atoms_spec (ws := zws yX2_init cX2_init 1 none) B.pre w (List.mem_cons_of_mem _ hw)
  have hown : s.vm.findClass RX2 = some m.cls := findClass_of_methodNamed B.named
  have hlocks := B.notSynchronized
  have hin : meth.name = "<init>" := (name_of_methodNamed B.named B.method).1
  subst hsz
  have hD := hD0.self (sz := s.heap.size)
  unfold ciB_X2
  generalize hAe : va_A [(h0, .inr (1, [.null, .null, .null]))] s.heap.size = A at hD ⊢
  have hA : ∀ q : Nat, s.heap.size ≤ q → A q := fun q h => by rw [← hAe]; exact Or.inr h
  have hS : va_S A s.heap s.heap [] := va_S.rf
  have hl := lv_entry ([.ref h0]) (n := 1) (Nat.le_of_ble_eq_true rfl)
  rw [lg_entry_eq]
  generalize (lg_sl ([.ref h0]) ++ List.replicate (1 - (lg_sl ([.ref h0])).length) Slot.unset).toArray = ls at hl ⊢
  have hl : lv_has ls 1 [(0, .ref h0)] := hl
  refine lv_aload_n hx hb dd_X2_init_0 rfl (lv_at hl 0 rfl) ?_
  refine W.objInit hx hb hown (hts _ wd_129) (hts _ wd_122) (hts _ wd_123) rfl (by rw [hml]; exact hl.1) rfl dd_X2_init_1 (Nat.le_of_ble_eq_true rfl) (Nat.le_of_ble_eq_true rfl) ?_
  refine W.eq (g2 := F0 m 4 ls []) rfl ?_
  refine lv_aload_n hx hb dd_X2_init_4 rfl (lv_at hl 0 rfl) ?_
  refine va_new (ci := 2) (fs := [.null, .null, .null, .null, .null, .null, .int 0]) (C := RX3) (T := TX3) (N := 7) hx hb hts zi_X3 tyX3 tyX3_ok hown (hts _ wd_130) (hts _ wd_131) (hts _ wd_102) hK hP hD hS hA rfl (fun j hj => by rcases (show j = 0 ∨ j = 1 ∨ j = 2 ∨ j = 3 ∨ j = 4 ∨ j = 5 ∨ j = 6 by omega) with rfl | rfl | rfl | rfl | rfl | rfl | rfl <;> rfl) (Nat.le_of_ble_eq_true rfl) (Nat.le_of_ble_eq_true rfl) dd_X2_init_5 (fun q5 H hP hD hS => ?_)
  have hP : va_P D vwCl [(h0, .inr (1, [.null, .null, .null])), (q5, .inr (2, [.null, .null, .null, .null, .null, .null, .int 0]))] H := hP
  have hD : va_D A [(h0, .inr (1, [.null, .null, .null])), (q5, .inr (2, [.null, .null, .null, .null, .null, .null, .int 0]))] := hD
  refine W.widen (k := 1) (n := 7) (Nat.le_of_ble_eq_true rfl) (Nat.le_of_ble_eq_true rfl) ?_
  refine lv_dup hx hb dd_X2_init_8 rfl ?_
  have hPc := hP.sub (ws' := [(q5, .inr (2, [.null, .null, .null, .null, .null, .null, .int 0]))]) [1] rfl
  have hDc := hD.sub (ws' := [(q5, .inr (2, [.null, .null, .null, .null, .null, .null, .int 0]))]) [1] (by decide) rfl
  have hFc := va_free (wc := [(q5, .inr (2, [.null, .null, .null, .null, .null, .null, .int 0]))]) hD hS hA [1] rfl
  refine va_callv (va_runIN (As := []) (rest := [.ref q5, .ref h0]) ⟨hx, hb, hml, hown, hts⟩ (ci_X3 l D cy q5 H.size) ⟨va_cnB 0 hts (zgi (fun _ h => h) wd_134) rfl rfl rfl (hN _ nd_132) (hts _ wd_102) (by decide +kernel) ⟨Nat.le_of_ble_eq_true rfl, Nat.le_of_ble_eq_true rfl⟩, rfl, hts _ wd_133⟩ ⟨ciP_blind, fun U hU hW => ⟨rfl, by rw [hU], by rw [hU]; exact hPc, va_K.moved hW.alike hK, hDc.weaken (fun _ _ _ _ => trivial), zNW_warm hW hN, va_AO.moved hW.alike hO⟩⟩ rfl rfl hl.1 rfl (lv_room (Nat.le_of_ble_eq_true rfl)) dd_X2_init_9 ⟨Nat.le_of_ble_eq_true rfl, Nat.le_of_ble_eq_true rfl⟩) hS (fun q _ h => hFc q h) hFc (fun _ t H1 locs ht hvm _ hB hz1 hk1 hS => ?_)
  obtain ⟨r1_q7, r1_q15, r1_q23, r1_q31, r1_q39, r1_q47, hP1, hD1⟩ := hB
  rw [ht] at hP1
  obtain ⟨hP, hD⟩ := va_join (wr := [(h0, .inr (1, [.null, .null, .null]))]) (w1 := [(q5, .inr (2, [.ref r1_q7, .ref r1_q15, .ref r1_q23, .ref r1_q31, .ref r1_q39, .ref r1_q47, .int 0])), (r1_q7, .inl (cy 0, 6, .inl (fun _ => 0))), (r1_q15, .inl (cy 0, 24, .inl (fun _ => 0))), (r1_q23, .inl (cy 0, 24, .inl (fun _ => 0))), (r1_q31, .inl (cy 0, 24, .inl (fun _ => 0))), (r1_q39, .inl (cy 0, 24, .inl (fun _ => 0))), (r1_q47, .inl (cy 0, 24, .inl (fun _ => 0)))]) hP hD [1] [0] rfl rfl (by decide) (by decide) hk1 hFc hP1 hD1
  generalize H1 = H at hP hS ⊢
  have hP : va_P D vwCl [(h0, .inr (1, [.null, .null, .null])), (q5, .inr (2, [.ref r1_q7, .ref r1_q15, .ref r1_q23, .ref r1_q31, .ref r1_q39, .ref r1_q47, .int 0])), (r1_q7, .inl (cy 0, 6, .inl (fun _ => 0))), (r1_q15, .inl (cy 0, 24, .inl (fun _ => 0))), (r1_q23, .inl (cy 0, 24, .inl (fun _ => 0))), (r1_q31, .inl (cy 0, 24, .inl (fun _ => 0))), (r1_q39, .inl (cy 0, 24, .inl (fun _ => 0))), (r1_q47, .inl (cy 0, 24, .inl (fun _ => 0)))] H := hP
  have hD : va_D A [(h0, .inr (1, [.null, .null, .null])), (q5, .inr (2, [.ref r1_q7, .ref r1_q15, .ref r1_q23, .ref r1_q31, .ref r1_q39, .ref r1_q47, .int 0])), (r1_q7, .inl (cy 0, 6, .inl (fun _ => 0))), (r1_q15, .inl (cy 0, 24, .inl (fun _ => 0))), (r1_q23, .inl (cy 0, 24, .inl (fun _ => 0))), (r1_q31, .inl (cy 0, 24, .inl (fun _ => 0))), (r1_q39, .inl (cy 0, 24, .inl (fun _ => 0))), (r1_q47, .inl (cy 0, 24, .inl (fun _ => 0)))] := hD
  refine W.widen (k := 7) (n := 133) (Nat.le_of_ble_eq_true rfl) (Nat.le_of_ble_eq_true rfl) ?_
  refine va_putF (D := D) (ci := 1) (v := .ref q5) (ty := (.object "ScrapedRoll$Skin")) (C := RX2) (T := TX2) (N := 3) hx hb hts zi_X2 tyX2 tyX2_ok nmX2 hown hK hP hD hS 0 rfl rfl 0 (by decide) (hts _ wd_200) (fun _ h9 => h9) rfl hin rfl (by decide +kernel) rfl rfl (Nat.le_of_ble_eq_true rfl) dd_X2_init_12 (fun H locs hP hD hS => ?_)
  have hP : va_P D vwCl [(h0, .inr (1, [.ref q5, .null, .null])), (q5, .inr (2, [.ref r1_q7, .ref r1_q15, .ref r1_q23, .ref r1_q31, .ref r1_q39, .ref r1_q47, .int 0])), (r1_q7, .inl (cy 0, 6, .inl (fun _ => 0))), (r1_q15, .inl (cy 0, 24, .inl (fun _ => 0))), (r1_q23, .inl (cy 0, 24, .inl (fun _ => 0))), (r1_q31, .inl (cy 0, 24, .inl (fun _ => 0))), (r1_q39, .inl (cy 0, 24, .inl (fun _ => 0))), (r1_q47, .inl (cy 0, 24, .inl (fun _ => 0)))] H := hP
  have hD : va_D A [(h0, .inr (1, [.ref q5, .null, .null])), (q5, .inr (2, [.ref r1_q7, .ref r1_q15, .ref r1_q23, .ref r1_q31, .ref r1_q39, .ref r1_q47, .int 0])), (r1_q7, .inl (cy 0, 6, .inl (fun _ => 0))), (r1_q15, .inl (cy 0, 24, .inl (fun _ => 0))), (r1_q23, .inl (cy 0, 24, .inl (fun _ => 0))), (r1_q31, .inl (cy 0, 24, .inl (fun _ => 0))), (r1_q39, .inl (cy 0, 24, .inl (fun _ => 0))), (r1_q47, .inl (cy 0, 24, .inl (fun _ => 0)))] := hD
  refine lv_aload_n hx hb dd_X2_init_15 rfl (lv_at hl 0 rfl) ?_
  refine va_new (ci := 3) (fs := [.null, .int 0]) (C := RX4) (T := TX4) (N := 2) hx hb hts zi_X4 tyX4 tyX4_ok hown (hts _ wd_161) (hts _ wd_162) (hts _ wd_103) hK hP hD hS hA rfl (fun j hj => by rcases (show j = 0 ∨ j = 1 by omega) with rfl | rfl <;> rfl) (Nat.le_of_ble_eq_true rfl) (Nat.le_of_ble_eq_true rfl) dd_X2_init_16 (fun q16 H hP hD hS => ?_)
  have hP : va_P D vwCl [(h0, .inr (1, [.ref q5, .null, .null])), (q5, .inr (2, [.ref r1_q7, .ref r1_q15, .ref r1_q23, .ref r1_q31, .ref r1_q39, .ref r1_q47, .int 0])), (r1_q7, .inl (cy 0, 6, .inl (fun _ => 0))), (r1_q15, .inl (cy 0, 24, .inl (fun _ => 0))), (r1_q23, .inl (cy 0, 24, .inl (fun _ => 0))), (r1_q31, .inl (cy 0, 24, .inl (fun _ => 0))), (r1_q39, .inl (cy 0, 24, .inl (fun _ => 0))), (r1_q47, .inl (cy 0, 24, .inl (fun _ => 0))), (q16, .inr (3, [.null, .int 0]))] H := hP
  have hD : va_D A [(h0, .inr (1, [.ref q5, .null, .null])), (q5, .inr (2, [.ref r1_q7, .ref r1_q15, .ref r1_q23, .ref r1_q31, .ref r1_q39, .ref r1_q47, .int 0])), (r1_q7, .inl (cy 0, 6, .inl (fun _ => 0))), (r1_q15, .inl (cy 0, 24, .inl (fun _ => 0))), (r1_q23, .inl (cy 0, 24, .inl (fun _ => 0))), (r1_q31, .inl (cy 0, 24, .inl (fun _ => 0))), (r1_q39, .inl (cy 0, 24, .inl (fun _ => 0))), (r1_q47, .inl (cy 0, 24, .inl (fun _ => 0))), (q16, .inr (3, [.null, .int 0]))] := hD
  refine W.widen (k := 8) (n := 135) (Nat.le_of_ble_eq_true rfl) (Nat.le_of_ble_eq_true rfl) ?_
  refine lv_dup hx hb dd_X2_init_19 rfl ?_
  have hPc := hP.sub (ws' := [(q16, .inr (3, [.null, .int 0]))]) [8] rfl
  have hDc := hD.sub (ws' := [(q16, .inr (3, [.null, .int 0]))]) [8] (by decide) rfl
  have hFc := va_free (wc := [(q16, .inr (3, [.null, .int 0]))]) hD hS hA [8] rfl
  refine va_callv (va_runIN (As := []) (rest := [.ref q16, .ref h0]) ⟨hx, hb, hml, hown, hts⟩ (ci_X4 l D cy q16 H.size) ⟨va_cnB 0 hts (zgi (fun _ h => h) wd_165) rfl rfl rfl (hN _ nd_163) (hts _ wd_103) (by decide +kernel) ⟨Nat.le_of_ble_eq_true rfl, Nat.le_of_ble_eq_true rfl⟩, rfl, hts _ wd_164⟩ ⟨ciP_blind, fun U hU hW => ⟨rfl, by rw [hU], by rw [hU]; exact hPc, va_K.moved hW.alike hK, hDc.weaken (fun _ _ _ _ => trivial), zNW_warm hW hN, va_AO.moved hW.alike hO⟩⟩ rfl rfl hl.1 rfl (lv_room (Nat.le_of_ble_eq_true rfl)) dd_X2_init_20 ⟨Nat.le_of_ble_eq_true rfl, Nat.le_of_ble_eq_true rfl⟩) hS (fun q _ h => hFc q h) hFc (fun _ t H1 locs ht hvm _ hB hz1 hk1 hS => ?_)
  obtain ⟨r2_q7, hP1, hD1⟩ := hB
  rw [ht] at hP1
  obtain ⟨hP, hD⟩ := va_join (wr := [(h0, .inr (1, [.ref q5, .null, .null])), (q5, .inr (2, [.ref r1_q7, .ref r1_q15, .ref r1_q23, .ref r1_q31, .ref r1_q39, .ref r1_q47, .int 0])), (r1_q7, .inl (cy 0, 6, .inl (fun _ => 0))), (r1_q15, .inl (cy 0, 24, .inl (fun _ => 0))), (r1_q23, .inl (cy 0, 24, .inl (fun _ => 0))), (r1_q31, .inl (cy 0, 24, .inl (fun _ => 0))), (r1_q39, .inl (cy 0, 24, .inl (fun _ => 0))), (r1_q47, .inl (cy 0, 24, .inl (fun _ => 0)))]) (w1 := [(q16, .inr (3, [.ref r2_q7, .int 0])), (r2_q7, .inl (cy 0, 6, .inl (fun _ => 0)))]) hP hD [8] [0, 1, 2, 3, 4, 5, 6, 7] rfl rfl (by decide) (by decide) hk1 hFc hP1 hD1
  generalize H1 = H at hP hS ⊢
  have hP : va_P D vwCl [(h0, .inr (1, [.ref q5, .null, .null])), (q5, .inr (2, [.ref r1_q7, .ref r1_q15, .ref r1_q23, .ref r1_q31, .ref r1_q39, .ref r1_q47, .int 0])), (r1_q7, .inl (cy 0, 6, .inl (fun _ => 0))), (r1_q15, .inl (cy 0, 24, .inl (fun _ => 0))), (r1_q23, .inl (cy 0, 24, .inl (fun _ => 0))), (r1_q31, .inl (cy 0, 24, .inl (fun _ => 0))), (r1_q39, .inl (cy 0, 24, .inl (fun _ => 0))), (r1_q47, .inl (cy 0, 24, .inl (fun _ => 0))), (q16, .inr (3, [.ref r2_q7, .int 0])), (r2_q7, .inl (cy 0, 6, .inl (fun _ => 0)))] H := hP
  have hD : va_D A [(h0, .inr (1, [.ref q5, .null, .null])), (q5, .inr (2, [.ref r1_q7, .ref r1_q15, .ref r1_q23, .ref r1_q31, .ref r1_q39, .ref r1_q47, .int 0])), (r1_q7, .inl (cy 0, 6, .inl (fun _ => 0))), (r1_q15, .inl (cy 0, 24, .inl (fun _ => 0))), (r1_q23, .inl (cy 0, 24, .inl (fun _ => 0))), (r1_q31, .inl (cy 0, 24, .inl (fun _ => 0))), (r1_q39, .inl (cy 0, 24, .inl (fun _ => 0))), (r1_q47, .inl (cy 0, 24, .inl (fun _ => 0))), (q16, .inr (3, [.ref r2_q7, .int 0])), (r2_q7, .inl (cy 0, 6, .inl (fun _ => 0)))] := hD
  refine W.widen (k := 9) (n := 141) (Nat.le_of_ble_eq_true rfl) (Nat.le_of_ble_eq_true rfl) ?_
  refine va_putF (D := D) (ci := 1) (v := .ref q16) (ty := (.object "ScrapedRoll$Steps")) (C := RX2) (T := TX2) (N := 3) hx hb hts zi_X2 tyX2 tyX2_ok nmX2 hown hK hP hD hS 0 rfl rfl 1 (by decide) (hts _ wd_202) (fun _ h9 => h9) rfl hin rfl (by decide +kernel) rfl rfl (Nat.le_of_ble_eq_true rfl) dd_X2_init_23 (fun H locs hP hD hS => ?_)
  have hP : va_P D vwCl [(h0, .inr (1, [.ref q5, .ref q16, .null])), (q5, .inr (2, [.ref r1_q7, .ref r1_q15, .ref r1_q23, .ref r1_q31, .ref r1_q39, .ref r1_q47, .int 0])), (r1_q7, .inl (cy 0, 6, .inl (fun _ => 0))), (r1_q15, .inl (cy 0, 24, .inl (fun _ => 0))), (r1_q23, .inl (cy 0, 24, .inl (fun _ => 0))), (r1_q31, .inl (cy 0, 24, .inl (fun _ => 0))), (r1_q39, .inl (cy 0, 24, .inl (fun _ => 0))), (r1_q47, .inl (cy 0, 24, .inl (fun _ => 0))), (q16, .inr (3, [.ref r2_q7, .int 0])), (r2_q7, .inl (cy 0, 6, .inl (fun _ => 0)))] H := hP
  have hD : va_D A [(h0, .inr (1, [.ref q5, .ref q16, .null])), (q5, .inr (2, [.ref r1_q7, .ref r1_q15, .ref r1_q23, .ref r1_q31, .ref r1_q39, .ref r1_q47, .int 0])), (r1_q7, .inl (cy 0, 6, .inl (fun _ => 0))), (r1_q15, .inl (cy 0, 24, .inl (fun _ => 0))), (r1_q23, .inl (cy 0, 24, .inl (fun _ => 0))), (r1_q31, .inl (cy 0, 24, .inl (fun _ => 0))), (r1_q39, .inl (cy 0, 24, .inl (fun _ => 0))), (r1_q47, .inl (cy 0, 24, .inl (fun _ => 0))), (q16, .inr (3, [.ref r2_q7, .int 0])), (r2_q7, .inl (cy 0, 6, .inl (fun _ => 0)))] := hD
  refine lv_aload_n hx hb dd_X2_init_26 rfl (lv_at hl 0 rfl) ?_
  refine va_new (ci := 0) (fs := [.null, .null, .null, .null, .int 0]) (C := RX0) (T := TX0) (N := 5) hx hb hts zi_X0 tyX0 tyX0_ok hown (hts _ wd_176) (hts _ wd_177) (hts _ wd_104) hK hP hD hS hA rfl (fun j hj => by rcases (show j = 0 ∨ j = 1 ∨ j = 2 ∨ j = 3 ∨ j = 4 by omega) with rfl | rfl | rfl | rfl | rfl <;> rfl) (Nat.le_of_ble_eq_true rfl) (Nat.le_of_ble_eq_true rfl) dd_X2_init_27 (fun q27 H hP hD hS => ?_)
  have hP : va_P D vwCl [(h0, .inr (1, [.ref q5, .ref q16, .null])), (q5, .inr (2, [.ref r1_q7, .ref r1_q15, .ref r1_q23, .ref r1_q31, .ref r1_q39, .ref r1_q47, .int 0])), (r1_q7, .inl (cy 0, 6, .inl (fun _ => 0))), (r1_q15, .inl (cy 0, 24, .inl (fun _ => 0))), (r1_q23, .inl (cy 0, 24, .inl (fun _ => 0))), (r1_q31, .inl (cy 0, 24, .inl (fun _ => 0))), (r1_q39, .inl (cy 0, 24, .inl (fun _ => 0))), (r1_q47, .inl (cy 0, 24, .inl (fun _ => 0))), (q16, .inr (3, [.ref r2_q7, .int 0])), (r2_q7, .inl (cy 0, 6, .inl (fun _ => 0))), (q27, .inr (0, [.null, .null, .null, .null, .int 0]))] H := hP
  have hD : va_D A [(h0, .inr (1, [.ref q5, .ref q16, .null])), (q5, .inr (2, [.ref r1_q7, .ref r1_q15, .ref r1_q23, .ref r1_q31, .ref r1_q39, .ref r1_q47, .int 0])), (r1_q7, .inl (cy 0, 6, .inl (fun _ => 0))), (r1_q15, .inl (cy 0, 24, .inl (fun _ => 0))), (r1_q23, .inl (cy 0, 24, .inl (fun _ => 0))), (r1_q31, .inl (cy 0, 24, .inl (fun _ => 0))), (r1_q39, .inl (cy 0, 24, .inl (fun _ => 0))), (r1_q47, .inl (cy 0, 24, .inl (fun _ => 0))), (q16, .inr (3, [.ref r2_q7, .int 0])), (r2_q7, .inl (cy 0, 6, .inl (fun _ => 0))), (q27, .inr (0, [.null, .null, .null, .null, .int 0]))] := hD
  refine W.widen (k := 10) (n := 146) (Nat.le_of_ble_eq_true rfl) (Nat.le_of_ble_eq_true rfl) ?_
  refine lv_dup hx hb dd_X2_init_30 rfl ?_
  have hPc := hP.sub (ws' := [(q27, .inr (0, [.null, .null, .null, .null, .int 0]))]) [10] rfl
  have hDc := hD.sub (ws' := [(q27, .inr (0, [.null, .null, .null, .null, .int 0]))]) [10] (by decide) rfl
  have hFc := va_free (wc := [(q27, .inr (0, [.null, .null, .null, .null, .int 0]))]) hD hS hA [10] rfl
  refine va_callv (va_runIN (As := []) (rest := [.ref q27, .ref h0]) ⟨hx, hb, hml, hown, hts⟩ (ci_X0 l D cy q27 H.size) ⟨va_cnB 0 hts (zgi (fun _ h => h) wd_180) rfl rfl rfl (hN _ nd_178) (hts _ wd_104) (by decide +kernel) ⟨Nat.le_of_ble_eq_true rfl, Nat.le_of_ble_eq_true rfl⟩, rfl, hts _ wd_179⟩ ⟨ciP_blind, fun U hU hW => ⟨rfl, by rw [hU], by rw [hU]; exact hPc, va_K.moved hW.alike hK, hDc.weaken (fun _ _ _ _ => trivial), zNW_warm hW hN, va_AO.moved hW.alike hO⟩⟩ rfl rfl hl.1 rfl (lv_room (Nat.le_of_ble_eq_true rfl)) dd_X2_init_31 ⟨Nat.le_of_ble_eq_true rfl, Nat.le_of_ble_eq_true rfl⟩) hS (fun q _ h => hFc q h) hFc (fun _ t H1 locs ht hvm _ hB hz1 hk1 hS => ?_)
  obtain ⟨r3_q7, r3_q15, r3_q23, r3_q31, hP1, hD1⟩ := hB
  rw [ht] at hP1
  obtain ⟨hP, hD⟩ := va_join (wr := [(h0, .inr (1, [.ref q5, .ref q16, .null])), (q5, .inr (2, [.ref r1_q7, .ref r1_q15, .ref r1_q23, .ref r1_q31, .ref r1_q39, .ref r1_q47, .int 0])), (r1_q7, .inl (cy 0, 6, .inl (fun _ => 0))), (r1_q15, .inl (cy 0, 24, .inl (fun _ => 0))), (r1_q23, .inl (cy 0, 24, .inl (fun _ => 0))), (r1_q31, .inl (cy 0, 24, .inl (fun _ => 0))), (r1_q39, .inl (cy 0, 24, .inl (fun _ => 0))), (r1_q47, .inl (cy 0, 24, .inl (fun _ => 0))), (q16, .inr (3, [.ref r2_q7, .int 0])), (r2_q7, .inl (cy 0, 6, .inl (fun _ => 0)))]) (w1 := [(q27, .inr (0, [.ref r3_q7, .ref r3_q15, .ref r3_q23, .ref r3_q31, .int 0])), (r3_q7, .inl (cy 0, 6, .inl (fun _ => 0))), (r3_q15, .inl (cy 0, 6, .inl (fun _ => 0))), (r3_q23, .inl (cy 0, 6, .inl (fun _ => 0))), (r3_q31, .inl (cy 0, 6, .inl (fun _ => 0)))]) hP hD [10] [0, 1, 2, 3, 4, 5, 6, 7, 8, 9] rfl rfl (by decide) (by decide) hk1 hFc hP1 hD1
  generalize H1 = H at hP hS ⊢
  have hP : va_P D vwCl [(h0, .inr (1, [.ref q5, .ref q16, .null])), (q5, .inr (2, [.ref r1_q7, .ref r1_q15, .ref r1_q23, .ref r1_q31, .ref r1_q39, .ref r1_q47, .int 0])), (r1_q7, .inl (cy 0, 6, .inl (fun _ => 0))), (r1_q15, .inl (cy 0, 24, .inl (fun _ => 0))), (r1_q23, .inl (cy 0, 24, .inl (fun _ => 0))), (r1_q31, .inl (cy 0, 24, .inl (fun _ => 0))), (r1_q39, .inl (cy 0, 24, .inl (fun _ => 0))), (r1_q47, .inl (cy 0, 24, .inl (fun _ => 0))), (q16, .inr (3, [.ref r2_q7, .int 0])), (r2_q7, .inl (cy 0, 6, .inl (fun _ => 0))), (q27, .inr (0, [.ref r3_q7, .ref r3_q15, .ref r3_q23, .ref r3_q31, .int 0])), (r3_q7, .inl (cy 0, 6, .inl (fun _ => 0))), (r3_q15, .inl (cy 0, 6, .inl (fun _ => 0))), (r3_q23, .inl (cy 0, 6, .inl (fun _ => 0))), (r3_q31, .inl (cy 0, 6, .inl (fun _ => 0)))] H := hP
  have hD : va_D A [(h0, .inr (1, [.ref q5, .ref q16, .null])), (q5, .inr (2, [.ref r1_q7, .ref r1_q15, .ref r1_q23, .ref r1_q31, .ref r1_q39, .ref r1_q47, .int 0])), (r1_q7, .inl (cy 0, 6, .inl (fun _ => 0))), (r1_q15, .inl (cy 0, 24, .inl (fun _ => 0))), (r1_q23, .inl (cy 0, 24, .inl (fun _ => 0))), (r1_q31, .inl (cy 0, 24, .inl (fun _ => 0))), (r1_q39, .inl (cy 0, 24, .inl (fun _ => 0))), (r1_q47, .inl (cy 0, 24, .inl (fun _ => 0))), (q16, .inr (3, [.ref r2_q7, .int 0])), (r2_q7, .inl (cy 0, 6, .inl (fun _ => 0))), (q27, .inr (0, [.ref r3_q7, .ref r3_q15, .ref r3_q23, .ref r3_q31, .int 0])), (r3_q7, .inl (cy 0, 6, .inl (fun _ => 0))), (r3_q15, .inl (cy 0, 6, .inl (fun _ => 0))), (r3_q23, .inl (cy 0, 6, .inl (fun _ => 0))), (r3_q31, .inl (cy 0, 6, .inl (fun _ => 0)))] := hD
  refine W.widen (k := 14) (n := 170) (Nat.le_of_ble_eq_true rfl) (Nat.le_of_ble_eq_true rfl) ?_
  refine va_putF (D := D) (ci := 1) (v := .ref q27) (ty := (.object "ScrapedRoll$Lamp")) (C := RX2) (T := TX2) (N := 3) hx hb hts zi_X2 tyX2 tyX2_ok nmX2 hown hK hP hD hS 0 rfl rfl 2 (by decide) (hts _ wd_204) (fun _ h9 => h9) rfl hin rfl (by decide +kernel) rfl rfl (Nat.le_of_ble_eq_true rfl) dd_X2_init_34 (fun H locs hP hD hS => ?_)
  have hP : va_P D vwCl [(h0, .inr (1, [.ref q5, .ref q16, .ref q27])), (q5, .inr (2, [.ref r1_q7, .ref r1_q15, .ref r1_q23, .ref r1_q31, .ref r1_q39, .ref r1_q47, .int 0])), (r1_q7, .inl (cy 0, 6, .inl (fun _ => 0))), (r1_q15, .inl (cy 0, 24, .inl (fun _ => 0))), (r1_q23, .inl (cy 0, 24, .inl (fun _ => 0))), (r1_q31, .inl (cy 0, 24, .inl (fun _ => 0))), (r1_q39, .inl (cy 0, 24, .inl (fun _ => 0))), (r1_q47, .inl (cy 0, 24, .inl (fun _ => 0))), (q16, .inr (3, [.ref r2_q7, .int 0])), (r2_q7, .inl (cy 0, 6, .inl (fun _ => 0))), (q27, .inr (0, [.ref r3_q7, .ref r3_q15, .ref r3_q23, .ref r3_q31, .int 0])), (r3_q7, .inl (cy 0, 6, .inl (fun _ => 0))), (r3_q15, .inl (cy 0, 6, .inl (fun _ => 0))), (r3_q23, .inl (cy 0, 6, .inl (fun _ => 0))), (r3_q31, .inl (cy 0, 6, .inl (fun _ => 0)))] H := hP
  have hD : va_D A [(h0, .inr (1, [.ref q5, .ref q16, .ref q27])), (q5, .inr (2, [.ref r1_q7, .ref r1_q15, .ref r1_q23, .ref r1_q31, .ref r1_q39, .ref r1_q47, .int 0])), (r1_q7, .inl (cy 0, 6, .inl (fun _ => 0))), (r1_q15, .inl (cy 0, 24, .inl (fun _ => 0))), (r1_q23, .inl (cy 0, 24, .inl (fun _ => 0))), (r1_q31, .inl (cy 0, 24, .inl (fun _ => 0))), (r1_q39, .inl (cy 0, 24, .inl (fun _ => 0))), (r1_q47, .inl (cy 0, 24, .inl (fun _ => 0))), (q16, .inr (3, [.ref r2_q7, .int 0])), (r2_q7, .inl (cy 0, 6, .inl (fun _ => 0))), (q27, .inr (0, [.ref r3_q7, .ref r3_q15, .ref r3_q23, .ref r3_q31, .int 0])), (r3_q7, .inl (cy 0, 6, .inl (fun _ => 0))), (r3_q15, .inl (cy 0, 6, .inl (fun _ => 0))), (r3_q23, .inl (cy 0, 6, .inl (fun _ => 0))), (r3_q31, .inl (cy 0, 6, .inl (fun _ => 0)))] := hD
  exact W.vret hx hb hr (fun t ht hW => ⟨⟨(), rfl, trivial, q5, r1_q7, r1_q15, r1_q23, r1_q31, r1_q39, r1_q47, q16, r2_q7, q27, r3_q7, r3_q15, r3_q23, r3_q31, by rw [ht]; exact hP, hD⟩, hS.F ht⟩) hS.2.2 dd_X2_init_37 hlocks
theorem dd_X5_init_0 : decode cX5_init 0 = .ok (.aload_n 0, 1) := by decide +kernel
theorem dd_X5_init_1 : decode cX5_init 1 = .ok (.invokespecial 3, 3) := by decide +kernel
theorem dd_X5_init_4 : decode cX5_init 4 = .ok (.aload_n 0, 1) := by decide +kernel
theorem dd_X5_init_5 : decode cX5_init 5 = .ok (.sipush 150, 3) := by decide +kernel
theorem dd_X5_init_8 : decode cX5_init 8 = .ok (.newarray .byte, 2) := by decide +kernel
theorem dd_X5_init_10 : decode cX5_init 10 = .ok (.putfield 9, 3) := by decide +kernel
theorem dd_X5_init_13 : decode cX5_init 13 = .ok (.aload_n 0, 1) := by decide +kernel
theorem dd_X5_init_14 : decode cX5_init 14 = .ok (.iconst 0, 1) := by decide +kernel
theorem dd_X5_init_15 : decode cX5_init 15 = .ok (.putfield 15, 3) := by decide +kernel
theorem dd_X5_init_18 : decode cX5_init 18 = .ok (.aload_n 0, 1) := by decide +kernel
theorem dd_X5_init_19 : decode cX5_init 19 = .ok (.iconst 0, 1) := by decide +kernel
theorem dd_X5_init_20 : decode cX5_init 20 = .ok (.putfield 19, 3) := by decide +kernel
theorem dd_X5_init_23 : decode cX5_init 23 = .ok (.aload_n 0, 1) := by decide +kernel
theorem dd_X5_init_24 : decode cX5_init 24 = .ok (.iconst 0, 1) := by decide +kernel
theorem dd_X5_init_25 : decode cX5_init 25 = .ok (.putfield 22, 3) := by decide +kernel
theorem dd_X5_init_28 : decode cX5_init 28 = .ok (.aload_n 0, 1) := by decide +kernel
theorem dd_X5_init_29 : decode cX5_init 29 = .ok (.iconst 0, 1) := by decide +kernel
theorem dd_X5_init_30 : decode cX5_init 30 = .ok (.putfield 25, 3) := by decide +kernel
theorem dd_X5_init_33 : decode cX5_init 33 = .ok (.aload_n 0, 1) := by decide +kernel
theorem dd_X5_init_34 : decode cX5_init 34 = .ok (.iconst 0, 1) := by decide +kernel
theorem dd_X5_init_35 : decode cX5_init 35 = .ok (.putfield 28, 3) := by decide +kernel
theorem dd_X5_init_38 : decode cX5_init 38 = .ok (.return_, 1) := by decide +kernel
def rm_X5 : Room := { frames := 1, cells := 1, slots := 150, locals := 40 }
def ciB_X5 (D : va_G) (cy : Nat → ClassId) (h0 : Nat) (A : Nat → Prop) (t : State) : Prop := ∃ q8 : Nat, va_P D vwCl [(h0, .inr (4, [.ref q8, .int 0, .int 0, .int 0, .int 0, .int 0])), (q8, .inl (cy 1, 150, .inl (fun _ => 0)))] t.heap ∧ va_D A [(h0, .inr (4, [.ref q8, .int 0, .int 0, .int 0, .int 0, .int 0])), (q8, .inl (cy 1, 150, .inl (fun _ => 0)))]
set_option maxRecDepth 100000 in
set_option maxHeartbeats 4000000 in
theorem ci_X5 (l : Launch) (D : va_G) (cy : Nat → ClassId) (h0 sz : Nat) : Met l yX5_init (zws yX5_init cX5_init 1 none) rm_X5 (ciP D cy h0 sz (.inr (4, [.null, .int 0, .int 0, .int 0, .int 0, .int 0]))) (va_Qv (fun _ : Unit => True) (fun _ t => ciB_X5 D cy h0 (va_A [(h0, .inr (4, [.null, .int 0, .int 0, .int 0, .int 0, .int 0]))] sz) t) (va_A [(h0, .inr (4, [.null, .int 0, .int 0, .int 0, .int 0, .int 0]))] sz)) 1 150 (va_A [(h0, .inr (4, [.null, .int 0, .int 0, .int 0, .int 0, .int 0]))] sz) := by
  refine Met.ofW (cc := cX5_init) (maxL := 1) (ret := none) (ws := zws yX5_init cX5_init 1 none) (ws' := zW) (by decide) rfl ?_
  intro p e s m args below meth c s₁ B hml hv
  obtain ⟨rfl, hsz, hP, hK, hD0, hN, hO⟩ := hv
  have hx := B.exec
  have hb := B.bytes
  have hr := B.returns
  have hts : ∀ w ∈ zW, w.before _ s = true := fun w hw => atoms_spec (ws := zws yX5_init cX5_init 1 none) B.pre w (List.mem_cons_of_mem _ hw)
  have hown : s.vm.findClass RX5 = some m.cls := findClass_of_methodNamed B.named
  have hlocks := B.notSynchronized
  have hin : meth.name = "<init>" := (name_of_methodNamed B.named B.method).1
  subst hsz
  have hD := hD0.self (sz := s.heap.size)
  unfold ciB_X5
  generalize hAe : va_A [(h0, .inr (4, [.null, .int 0, .int 0, .int 0, .int 0, .int 0]))] s.heap.size = A at hD ⊢
  have hA : ∀ q : Nat, s.heap.size ≤ q → A q := fun q h => by rw [← hAe]; exact Or.inr h
  have hS : va_S A s.heap s.heap [] := va_S.rf
  have hl := lv_entry ([.ref h0]) (n := 1) (Nat.le_of_ble_eq_true rfl)
  rw [lg_entry_eq]
  generalize (lg_sl ([.ref h0]) ++ List.replicate (1 - (lg_sl ([.ref h0])).length) Slot.unset).toArray = ls at hl ⊢
  have hl : lv_has ls 1 [(0, .ref h0)] := hl
  refine lv_aload_n hx hb dd_X5_init_0 rfl (lv_at hl 0 rfl) ?_
  refine W.objInit hx hb hown (hts _ wd_246) (hts _ wd_122) (hts _ wd_123) rfl (by rw [hml]; exact hl.1) rfl dd_X5_init_1 (Nat.le_of_ble_eq_true rfl) (Nat.le_of_ble_eq_true rfl) ?_
  refine W.eq (g2 := F0 m 4 ls []) rfl ?_
  refine lv_aload_n hx hb dd_X5_init_4 rfl (lv_at hl 0 rfl) ?_
  refine lv_sipush (v := 150) hx hb dd_X5_init_5 (by decide) ?_
  refine zc_newa1 (N := 150) hx hb (hts _ wd_270) hK hP hD hS hA (by decide) (by decide) (by decide) (Nat.le_of_ble_eq_true rfl) (Nat.le_of_ble_eq_true rfl) dd_X5_init_8 (fun q8 H hP hD hS => ?_)
  have hP : va_P D vwCl [(h0, .inr (4, [.null, .int 0, .int 0, .int 0, .int 0, .int 0])), (q8, .inl (cy 1, 150, .inl (fun _ => 0)))] H := hP
  have hD : va_D A [(h0, .inr (4, [.null, .int 0, .int 0, .int 0, .int 0, .int 0])), (q8, .inl (cy 1, 150, .inl (fun _ => 0)))] := hD
  refine W.widen (k := 1) (n := 150) (Nat.le_of_ble_eq_true rfl) (Nat.le_of_ble_eq_true rfl) ?_
  refine va_putF (D := D) (ci := 4) (v := .ref q8) (ty := (.array .byte)) (C := RX5) (T := TX5) (N := 6) hx hb hts zi_X5 tyX5 tyX5_ok nmX5 hown hK hP hD hS 0 rfl rfl 0 (by decide) (hts _ wd_247) (fun _ h9 => h9) rfl hin rfl (by decide +kernel) rfl rfl (Nat.le_of_ble_eq_true rfl) dd_X5_init_10 (fun H locs hP hD hS => ?_)
  have hP : va_P D vwCl [(h0, .inr (4, [.ref q8, .int 0, .int 0, .int 0, .int 0, .int 0])), (q8, .inl (cy 1, 150, .inl (fun _ => 0)))] H := hP
  have hD : va_D A [(h0, .inr (4, [.ref q8, .int 0, .int 0, .int 0, .int 0, .int 0])), (q8, .inl (cy 1, 150, .inl (fun _ => 0)))] := hD
  refine lv_aload_n hx hb dd_X5_init_13 rfl (lv_at hl 0 rfl) ?_
  refine lv_iconst (v := 0) hx hb dd_X5_init_14 (by decide) ?_
  refine va_put (D := D) (ci := 4) (v := .int 0) (ty := (.int)) (C := RX5) (T := TX5) (N := 6) hx hb hts zi_X5 tyX5 tyX5_ok nmX5 hown hK hP hD hS 0 rfl rfl 1 (by decide) (hts _ wd_248) (fun _ h9 => h9) rfl (by decide +kernel) rfl rfl (Nat.le_of_ble_eq_true rfl) dd_X5_init_15 (fun H locs hP hD hS => ?_)
  have hP : va_P D vwCl [(h0, .inr (4, [.ref q8, .int 0, .int 0, .int 0, .int 0, .int 0])), (q8, .inl (cy 1, 150, .inl (fun _ => 0)))] H := hP
  have hD : va_D A [(h0, .inr (4, [.ref q8, .int 0, .int 0, .int 0, .int 0, .int 0])), (q8, .inl (cy 1, 150, .inl (fun _ => 0)))] := hD
  refine lv_aload_n hx hb dd_X5_init_18 rfl (lv_at hl 0 rfl) ?_
  refine lv_iconst (v := 0) hx hb dd_X5_init_19 (by decide) ?_
  refine va_put (D := D) (ci := 4) (v := .int 0) (ty := (.int)) (C := RX5) (T := TX5) (N := 6) hx hb hts zi_X5 tyX5 tyX5_ok nmX5 hown hK hP hD hS 0 rfl rfl 2 (by decide) (hts _ wd_250) (fun _ h9 => h9) rfl (by decide +kernel) rfl rfl (Nat.le_of_ble_eq_true rfl) dd_X5_init_20 (fun H locs hP hD hS => ?_)
  have hP : va_P D vwCl [(h0, .inr (4, [.ref q8, .int 0, .int 0, .int 0, .int 0, .int 0])), (q8, .inl (cy 1, 150, .inl (fun _ => 0)))] H := hP
  have hD : va_D A [(h0, .inr (4, [.ref q8, .int 0, .int 0, .int 0, .int 0, .int 0])), (q8, .inl (cy 1, 150, .inl (fun _ => 0)))] := hD
  refine lv_aload_n hx hb dd_X5_init_23 rfl (lv_at hl 0 rfl) ?_
  refine lv_iconst (v := 0) hx hb dd_X5_init_24 (by decide) ?_
  refine va_put (D := D) (ci := 4) (v := .int 0) (ty := (.int)) (C := RX5) (T := TX5) (N := 6) hx hb hts zi_X5 tyX5 tyX5_ok nmX5 hown hK hP hD hS 0 rfl rfl 3 (by decide) (hts _ wd_251) (fun _ h9 => h9) rfl (by decide +kernel) rfl rfl (Nat.le_of_ble_eq_true rfl) dd_X5_init_25 (fun H locs hP hD hS => ?_)
  have hP : va_P D vwCl [(h0, .inr (4, [.ref q8, .int 0, .int 0, .int 0, .int 0, .int 0])), (q8, .inl (cy 1, 150, .inl (fun _ => 0)))] H := hP
  have hD : va_D A [(h0, .inr (4, [.ref q8, .int 0, .int 0, .int 0, .int 0, .int 0])), (q8, .inl (cy 1, 150, .inl (fun _ => 0)))] := hD
  refine lv_aload_n hx hb dd_X5_init_28 rfl (lv_at hl 0 rfl) ?_
  refine lv_iconst (v := 0) hx hb dd_X5_init_29 (by decide) ?_
  refine va_put (D := D) (ci := 4) (v := .int 0) (ty := (.int)) (C := RX5) (T := TX5) (N := 6) hx hb hts zi_X5 tyX5 tyX5_ok nmX5 hown hK hP hD hS 0 rfl rfl 4 (by decide) (hts _ wd_253) (fun _ h9 => h9) rfl (by decide +kernel) rfl rfl (Nat.le_of_ble_eq_true rfl) dd_X5_init_30 (fun H locs hP hD hS => ?_)
  have hP : va_P D vwCl [(h0, .inr (4, [.ref q8, .int 0, .int 0, .int 0, .int 0, .int 0])), (q8, .inl (cy 1, 150, .inl (fun _ => 0)))] H := hP
  have hD : va_D A [(h0, .inr (4, [.ref q8, .int 0, .int 0, .int 0, .int 0, .int 0])), (q8, .inl (cy 1, 150, .inl (fun _ => 0)))] := hD
  refine lv_aload_n hx hb dd_X5_init_33 rfl (lv_at hl 0 rfl) ?_
  refine lv_iconst (v := 0) hx hb dd_X5_init_34 (by decide) ?_
  refine va_put (D := D) (ci := 4) (v := .int 0) (ty := (.int)) (C := RX5) (T := TX5) (N := 6) hx hb hts zi_X5 tyX5 tyX5_ok nmX5 hown hK hP hD hS 0 rfl rfl 5 (by decide) (hts _ wd_255) (fun _ h9 => h9) rfl (by decide +kernel) rfl rfl (Nat.le_of_ble_eq_true rfl) dd_X5_init_35 (fun H locs hP hD hS => ?_)
  have hP : va_P D vwCl [(h0, .inr (4, [.ref q8, .int 0, .int 0, .int 0, .int 0, .int 0])), (q8, .inl (cy 1, 150, .inl (fun _ => 0)))] H := hP
  have hD : va_D A [(h0, .inr (4, [.ref q8, .int 0, .int 0, .int 0, .int 0, .int 0])), (q8, .inl (cy 1, 150, .inl (fun _ => 0)))] := hD
  exact W.vret hx hb hr (fun t ht hW => ⟨⟨(), rfl, trivial, q8, by rw [ht]; exact hP, hD⟩, hS.F ht⟩) hS.2.2 dd_X5_init_38 hlocks
theorem dd_X6_init_0 : decode cX6_init 0 = .ok (.aload_n 0, 1) := by decide +kernel
theorem dd_X6_init_1 : decode cX6_init 1 = .ok (.invokespecial 3, 3) := by decide +kernel
theorem dd_X6_init_4 : decode cX6_init 4 = .ok (.aload_n 0, 1) := by decide +kernel
theorem dd_X6_init_5 : decode cX6_init 5 = .ok (.new 9, 3) := by decide +kernel
theorem dd_X6_init_8 : decode cX6_init 8 = .ok (.dup, 1) := by decide +kernel
theorem dd_X6_init_9 : decode cX6_init 9 = .ok (.invokespecial 11, 3) := by decide +kernel
theorem dd_X6_init_12 : decode cX6_init 12 = .ok (.putfield 12, 3) := by decide +kernel
theorem dd_X6_init_15 : decode cX6_init 15 = .ok (.aload_n 0, 1) := by decide +kernel
theorem dd_X6_init_16 : decode cX6_init 16 = .ok (.bipush 6, 2) := by decide +kernel
theorem dd_X6_init_18 : decode cX6_init 18 = .ok (.newarray .int, 2) := by decide +kernel
theorem dd_X6_init_20 : decode cX6_init 20 = .ok (.putfield 18, 3) := by decide +kernel
theorem dd_X6_init_23 : decode cX6_init 23 = .ok (.aload_n 0, 1) := by decide +kernel
theorem dd_X6_init_24 : decode cX6_init 24 = .ok (.iconst 0, 1) := by decide +kernel
theorem dd_X6_init_25 : decode cX6_init 25 = .ok (.putfield 22, 3) := by decide +kernel
theorem dd_X6_init_28 : decode cX6_init 28 = .ok (.aload_n 0, 1) := by decide +kernel
theorem dd_X6_init_29 : decode cX6_init 29 = .ok (.iconst 0, 1) := by decide +kernel
theorem dd_X6_init_30 : decode cX6_init 30 = .ok (.putfield 26, 3) := by decide +kernel
theorem dd_X6_init_33 : decode cX6_init 33 = .ok (.aload_n 0, 1) := by decide +kernel
theorem dd_X6_init_34 : decode cX6_init 34 = .ok (.bipush 20, 2) := by decide +kernel
theorem dd_X6_init_36 : decode cX6_init 36 = .ok (.putfield 29, 3) := by decide +kernel
theorem dd_X6_init_39 : decode cX6_init 39 = .ok (.return_, 1) := by decide +kernel
def rm_X6 : Room := { frames := 2, cells := 8, slots := 139, locals := 80 }
def ciB_X6 (D : va_G) (cy : Nat → ClassId) (h0 : Nat) (A : Nat → Prop) (t : State) : Prop := ∃ q5 r1_q7 r1_q15 r1_q23 r1_q31 r1_q39 r1_q47 q18 : Nat, va_P D vwCl [(h0, .inr (5, [.ref q5, .ref q18, .int 0, .int 0, .int 20])), (q5, .inr (2, [.ref r1_q7, .ref r1_q15, .ref r1_q23, .ref r1_q31, .ref r1_q39, .ref r1_q47, .int 0])), (r1_q7, .inl (cy 0, 6, .inl (fun _ => 0))), (r1_q15, .inl (cy 0, 24, .inl (fun _ => 0))), (r1_q23, .inl (cy 0, 24, .inl (fun _ => 0))), (r1_q31, .inl (cy 0, 24, .inl (fun _ => 0))), (r1_q39, .inl (cy 0, 24, .inl (fun _ => 0))), (r1_q47, .inl (cy 0, 24, .inl (fun _ => 0))), (q18, .inl (cy 0, 6, .inl (fun _ => 0)))] t.heap ∧ va_D A [(h0, .inr (5, [.ref q5, .ref q18, .int 0, .int 0, .int 20])), (q5, .inr (2, [.ref r1_q7, .ref r1_q15, .ref r1_q23, .ref r1_q31, .ref r1_q39, .ref r1_q47, .int 0])), (r1_q7, .inl (cy 0, 6, .inl (fun _ => 0))), (r1_q15, .inl (cy 0, 24, .inl (fun _ => 0))), (r1_q23, .inl (cy 0, 24, .inl (fun _ => 0))), (r1_q31, .inl (cy 0, 24, .inl (fun _ => 0))), (r1_q39, .inl (cy 0, 24, .inl (fun _ => 0))), (r1_q47, .inl (cy 0, 24, .inl (fun _ => 0))), (q18, .inl (cy 0, 6, .inl (fun _ => 0)))]
set_option maxRecDepth 100000 in
set_option maxHeartbeats 4000000 in
theorem ci_X6 (l : Launch) (D : va_G) (cy : Nat → ClassId) (h0 sz : Nat) : Met l yX6_init (zws yX6_init cX6_init 1 none) rm_X6 (ciP D cy h0 sz (.inr (5, [.null, .null, .int 0, .int 0, .int 0]))) (va_Qv (fun _ : Unit => True) (fun _ t => ciB_X6 D cy h0 (va_A [(h0, .inr (5, [.null, .null, .int 0, .int 0, .int 0]))] sz) t) (va_A [(h0, .inr (5, [.null, .null, .int 0, .int 0, .int 0]))] sz)) 8 139 (va_A [(h0, .inr (5, [.null, .null, .int 0, .int 0, .int 0]))] sz) := by
  refine Met.ofW (cc := cX6_init) (maxL := 1) (ret := none) (ws := zws yX6_init cX6_init 1 none) (ws' := zW) (by decide) rfl ?_
  intro p e s m args below meth c s₁ B hml hv
  obtain ⟨rfl, hsz, hP, hK, hD0, hN, hO⟩ := hv
  have hx := B.exec
  have hb := B.bytes
  have hr := B.returns
  have hts : ∀ w ∈ zW, w.before _ s = true := fun w hw => atoms_spec (ws := zws yX6_init cX6_init 1 none) B.pre w (List.mem_cons_of_mem _ hw)
  have hown : s.vm.findClass RX6 = some m.cls := findClass_of_methodNamed B.named
  have hlocks := B.notSynchronized
  have hin : meth.name = "<init>" := (name_of_methodNamed B.named B.method).1
  subst hsz
  have hD := hD0.self (sz := s.heap.size)
  unfold ciB_X6
  generalize hAe : va_A [(h0, .inr (5, [.null, .null, .int 0, .int 0, .int 0]))] s.heap.size = A at hD ⊢
  have hA : ∀ q : Nat, s.heap.size ≤ q → A q := fun q h => by rw [← hAe]; exact Or.inr h
  have hS : va_S A s.heap s.heap [] := va_S.rf
  have hl := lv_entry ([.ref h0]) (n := 1) (Nat.le_of_ble_eq_true rfl)
  rw [lg_entry_eq]
  generalize (lg_sl ([.ref h0]) ++ List.replicate (1 - (lg_sl ([.ref h0])).length) Slot.unset).toArray = ls at hl ⊢
  have hl : lv_has ls 1 [(0, .ref h0)] := hl
  refine lv_aload_n hx hb dd_X6_init_0 rfl (lv_at hl 0 rfl) ?_
  refine W.objInit hx hb hown (hts _ wd_221) (hts _ wd_122) (hts _ wd_123) rfl (by rw [hml]; exact hl.1) rfl dd_X6_init_1 (Nat.le_of_ble_eq_true rfl) (Nat.le_of_ble_eq_true rfl) ?_
  refine W.eq (g2 := F0 m 4 ls []) rfl ?_
  refine lv_aload_n hx hb dd_X6_init_4 rfl (lv_at hl 0 rfl) ?_
  refine va_new (ci := 2) (fs := [.null, .null, .null, .null, .null, .null, .int 0]) (C := RX3) (T := TX3) (N := 7) hx hb hts zi_X3 tyX3 tyX3_ok hown (hts _ wd_222) (hts _ wd_131) (hts _ wd_102) hK hP hD hS hA rfl (fun j hj => by rcases (show j = 0 ∨ j = 1 ∨ j = 2 ∨ j = 3 ∨ j = 4 ∨ j = 5 ∨ j = 6 by omega) with rfl | rfl | rfl | rfl | rfl | rfl | rfl <;> rfl) (Nat.le_of_ble_eq_true rfl) (Nat.le_of_ble_eq_true rfl) dd_X6_init_5 (fun q5 H hP hD hS => ?_)
  have hP : va_P D vwCl [(h0, .inr (5, [.null, .null, .int 0, .int 0, .int 0])), (q5, .inr (2, [.null, .null, .null, .null, .null, .null, .int 0]))] H := hP
  have hD : va_D A [(h0, .inr (5, [.null, .null, .int 0, .int 0, .int 0])), (q5, .inr (2, [.null, .null, .null, .null, .null, .null, .int 0]))] := hD
  refine W.widen (k := 1) (n := 7) (Nat.le_of_ble_eq_true rfl) (Nat.le_of_ble_eq_true rfl) ?_
  refine lv_dup hx hb dd_X6_init_8 rfl ?_
  have hPc := hP.sub (ws' := [(q5, .inr (2, [.null, .null, .null, .null, .null, .null, .int 0]))]) [1] rfl
  have hDc := hD.sub (ws' := [(q5, .inr (2, [.null, .null, .null, .null, .null, .null, .int 0]))]) [1] (by decide) rfl
  have hFc := va_free (wc := [(q5, .inr (2, [.null, .null, .null, .null, .null, .null, .int 0]))]) hD hS hA [1] rfl
  refine va_callv (va_runIN (As := []) (rest := [.ref q5, .ref h0]) ⟨hx, hb, hml, hown, hts⟩ (ci_X3 l D cy q5 H.size) ⟨va_cnB 0 hts (zgi (fun _ h => h) wd_134) rfl rfl rfl (hN _ nd_223) (hts _ wd_102) (by decide +kernel) ⟨Nat.le_of_ble_eq_true rfl, Nat.le_of_ble_eq_true rfl⟩, rfl, hts _ wd_133⟩ ⟨ciP_blind, fun U hU hW => ⟨rfl, by rw [hU], by rw [hU]; exact hPc, va_K.moved hW.alike hK, hDc.weaken (fun _ _ _ _ => trivial), zNW_warm hW hN, va_AO.moved hW.alike hO⟩⟩ rfl rfl hl.1 rfl (lv_room (Nat.le_of_ble_eq_true rfl)) dd_X6_init_9 ⟨Nat.le_of_ble_eq_true rfl, Nat.le_of_ble_eq_true rfl⟩) hS (fun q _ h => hFc q h) hFc (fun _ t H1 locs ht hvm _ hB hz1 hk1 hS => ?_)
  obtain ⟨r1_q7, r1_q15, r1_q23, r1_q31, r1_q39, r1_q47, hP1, hD1⟩ := hB
  rw [ht] at hP1
  obtain ⟨hP, hD⟩ := va_join (wr := [(h0, .inr (5, [.null, .null, .int 0, .int 0, .int 0]))]) (w1 := [(q5, .inr (2, [.ref r1_q7, .ref r1_q15, .ref r1_q23, .ref r1_q31, .ref r1_q39, .ref r1_q47, .int 0])), (r1_q7, .inl (cy 0, 6, .inl (fun _ => 0))), (r1_q15, .inl (cy 0, 24, .inl (fun _ => 0))), (r1_q23, .inl (cy 0, 24, .inl (fun _ => 0))), (r1_q31, .inl (cy 0, 24, .inl (fun _ => 0))), (r1_q39, .inl (cy 0, 24, .inl (fun _ => 0))), (r1_q47, .inl (cy 0, 24, .inl (fun _ => 0)))]) hP hD [1] [0] rfl rfl (by decide) (by decide) hk1 hFc hP1 hD1
  generalize H1 = H at hP hS ⊢
  have hP : va_P D vwCl [(h0, .inr (5, [.null, .null, .int 0, .int 0, .int 0])), (q5, .inr (2, [.ref r1_q7, .ref r1_q15, .ref r1_q23, .ref r1_q31, .ref r1_q39, .ref r1_q47, .int 0])), (r1_q7, .inl (cy 0, 6, .inl (fun _ => 0))), (r1_q15, .inl (cy 0, 24, .inl (fun _ => 0))), (r1_q23, .inl (cy 0, 24, .inl (fun _ => 0))), (r1_q31, .inl (cy 0, 24, .inl (fun _ => 0))), (r1_q39, .inl (cy 0, 24, .inl (fun _ => 0))), (r1_q47, .inl (cy 0, 24, .inl (fun _ => 0)))] H := hP
  have hD : va_D A [(h0, .inr (5, [.null, .null, .int 0, .int 0, .int 0])), (q5, .inr (2, [.ref r1_q7, .ref r1_q15, .ref r1_q23, .ref r1_q31, .ref r1_q39, .ref r1_q47, .int 0])), (r1_q7, .inl (cy 0, 6, .inl (fun _ => 0))), (r1_q15, .inl (cy 0, 24, .inl (fun _ => 0))), (r1_q23, .inl (cy 0, 24, .inl (fun _ => 0))), (r1_q31, .inl (cy 0, 24, .inl (fun _ => 0))), (r1_q39, .inl (cy 0, 24, .inl (fun _ => 0))), (r1_q47, .inl (cy 0, 24, .inl (fun _ => 0)))] := hD
  refine W.widen (k := 7) (n := 133) (Nat.le_of_ble_eq_true rfl) (Nat.le_of_ble_eq_true rfl) ?_
  refine va_putF (D := D) (ci := 5) (v := .ref q5) (ty := (.object "ScrapedRoll$Skin")) (C := RX6) (T := TX6) (N := 5) hx hb hts zi_X6 tyX6 tyX6_ok nmX6 hown hK hP hD hS 0 rfl rfl 0 (by decide) (hts _ wd_224) (fun _ h9 => h9) rfl hin rfl (by decide +kernel) rfl rfl (Nat.le_of_ble_eq_true rfl) dd_X6_init_12 (fun H locs hP hD hS => ?_)
  have hP : va_P D vwCl [(h0, .inr (5, [.ref q5, .null, .int 0, .int 0, .int 0])), (q5, .inr (2, [.ref r1_q7, .ref r1_q15, .ref r1_q23, .ref r1_q31, .ref r1_q39, .ref r1_q47, .int 0])), (r1_q7, .inl (cy 0, 6, .inl (fun _ => 0))), (r1_q15, .inl (cy 0, 24, .inl (fun _ => 0))), (r1_q23, .inl (cy 0, 24, .inl (fun _ => 0))), (r1_q31, .inl (cy 0, 24, .inl (fun _ => 0))), (r1_q39, .inl (cy 0, 24, .inl (fun _ => 0))), (r1_q47, .inl (cy 0, 24, .inl (fun _ => 0)))] H := hP
  have hD : va_D A [(h0, .inr (5, [.ref q5, .null, .int 0, .int 0, .int 0])), (q5, .inr (2, [.ref r1_q7, .ref r1_q15, .ref r1_q23, .ref r1_q31, .ref r1_q39, .ref r1_q47, .int 0])), (r1_q7, .inl (cy 0, 6, .inl (fun _ => 0))), (r1_q15, .inl (cy 0, 24, .inl (fun _ => 0))), (r1_q23, .inl (cy 0, 24, .inl (fun _ => 0))), (r1_q31, .inl (cy 0, 24, .inl (fun _ => 0))), (r1_q39, .inl (cy 0, 24, .inl (fun _ => 0))), (r1_q47, .inl (cy 0, 24, .inl (fun _ => 0)))] := hD
  refine lv_aload_n hx hb dd_X6_init_15 rfl (lv_at hl 0 rfl) ?_
  refine lv_bipush (v := 6) hx hb dd_X6_init_16 (by decide) ?_
  refine zc_newa0 (N := 6) hx hb (hts _ wd_160) hK hP hD hS hA (by decide) (by decide) (by decide) (Nat.le_of_ble_eq_true rfl) (Nat.le_of_ble_eq_true rfl) dd_X6_init_18 (fun q18 H hP hD hS => ?_)
  have hP : va_P D vwCl [(h0, .inr (5, [.ref q5, .null, .int 0, .int 0, .int 0])), (q5, .inr (2, [.ref r1_q7, .ref r1_q15, .ref r1_q23, .ref r1_q31, .ref r1_q39, .ref r1_q47, .int 0])), (r1_q7, .inl (cy 0, 6, .inl (fun _ => 0))), (r1_q15, .inl (cy 0, 24, .inl (fun _ => 0))), (r1_q23, .inl (cy 0, 24, .inl (fun _ => 0))), (r1_q31, .inl (cy 0, 24, .inl (fun _ => 0))), (r1_q39, .inl (cy 0, 24, .inl (fun _ => 0))), (r1_q47, .inl (cy 0, 24, .inl (fun _ => 0))), (q18, .inl (cy 0, 6, .inl (fun _ => 0)))] H := hP
  have hD : va_D A [(h0, .inr (5, [.ref q5, .null, .int 0, .int 0, .int 0])), (q5, .inr (2, [.ref r1_q7, .ref r1_q15, .ref r1_q23, .ref r1_q31, .ref r1_q39, .ref r1_q47, .int 0])), (r1_q7, .inl (cy 0, 6, .inl (fun _ => 0))), (r1_q15, .inl (cy 0, 24, .inl (fun _ => 0))), (r1_q23, .inl (cy 0, 24, .inl (fun _ => 0))), (r1_q31, .inl (cy 0, 24, .inl (fun _ => 0))), (r1_q39, .inl (cy 0, 24, .inl (fun _ => 0))), (r1_q47, .inl (cy 0, 24, .inl (fun _ => 0))), (q18, .inl (cy 0, 6, .inl (fun _ => 0)))] := hD
  refine W.widen (k := 8) (n := 139) (Nat.le_of_ble_eq_true rfl) (Nat.le_of_ble_eq_true rfl) ?_
  refine va_putF (D := D) (ci := 5) (v := .ref q18) (ty := (.array .int)) (C := RX6) (T := TX6) (N := 5) hx hb hts zi_X6 tyX6 tyX6_ok nmX6 hown hK hP hD hS 0 rfl rfl 1 (by decide) (hts _ wd_225) (fun _ h9 => h9) rfl hin rfl (by decide +kernel) rfl rfl (Nat.le_of_ble_eq_true rfl) dd_X6_init_20 (fun H locs hP hD hS => ?_)
  have hP : va_P D vwCl [(h0, .inr (5, [.ref q5, .ref q18, .int 0, .int 0, .int 0])), (q5, .inr (2, [.ref r1_q7, .ref r1_q15, .ref r1_q23, .ref r1_q31, .ref r1_q39, .ref r1_q47, .int 0])), (r1_q7, .inl (cy 0, 6, .inl (fun _ => 0))), (r1_q15, .inl (cy 0, 24, .inl (fun _ => 0))), (r1_q23, .inl (cy 0, 24, .inl (fun _ => 0))), (r1_q31, .inl (cy 0, 24, .inl (fun _ => 0))), (r1_q39, .inl (cy 0, 24, .inl (fun _ => 0))), (r1_q47, .inl (cy 0, 24, .inl (fun _ => 0))), (q18, .inl (cy 0, 6, .inl (fun _ => 0)))] H := hP
  have hD : va_D A [(h0, .inr (5, [.ref q5, .ref q18, .int 0, .int 0, .int 0])), (q5, .inr (2, [.ref r1_q7, .ref r1_q15, .ref r1_q23, .ref r1_q31, .ref r1_q39, .ref r1_q47, .int 0])), (r1_q7, .inl (cy 0, 6, .inl (fun _ => 0))), (r1_q15, .inl (cy 0, 24, .inl (fun _ => 0))), (r1_q23, .inl (cy 0, 24, .inl (fun _ => 0))), (r1_q31, .inl (cy 0, 24, .inl (fun _ => 0))), (r1_q39, .inl (cy 0, 24, .inl (fun _ => 0))), (r1_q47, .inl (cy 0, 24, .inl (fun _ => 0))), (q18, .inl (cy 0, 6, .inl (fun _ => 0)))] := hD
  refine lv_aload_n hx hb dd_X6_init_23 rfl (lv_at hl 0 rfl) ?_
  refine lv_iconst (v := 0) hx hb dd_X6_init_24 (by decide) ?_
  refine va_put (D := D) (ci := 5) (v := .int 0) (ty := (.int)) (C := RX6) (T := TX6) (N := 5) hx hb hts zi_X6 tyX6 tyX6_ok nmX6 hown hK hP hD hS 0 rfl rfl 2 (by decide) (hts _ wd_226) (fun _ h9 => h9) rfl (by decide +kernel) rfl rfl (Nat.le_of_ble_eq_true rfl) dd_X6_init_25 (fun H locs hP hD hS => ?_)
  have hP : va_P D vwCl [(h0, .inr (5, [.ref q5, .ref q18, .int 0, .int 0, .int 0])), (q5, .inr (2, [.ref r1_q7, .ref r1_q15, .ref r1_q23, .ref r1_q31, .ref r1_q39, .ref r1_q47, .int 0])), (r1_q7, .inl (cy 0, 6, .inl (fun _ => 0))), (r1_q15, .inl (cy 0, 24, .inl (fun _ => 0))), (r1_q23, .inl (cy 0, 24, .inl (fun _ => 0))), (r1_q31, .inl (cy 0, 24, .inl (fun _ => 0))), (r1_q39, .inl (cy 0, 24, .inl (fun _ => 0))), (r1_q47, .inl (cy 0, 24, .inl (fun _ => 0))), (q18, .inl (cy 0, 6, .inl (fun _ => 0)))] H := hP
  have hD : va_D A [(h0, .inr (5, [.ref q5, .ref q18, .int 0, .int 0, .int 0])), (q5, .inr (2, [.ref r1_q7, .ref r1_q15, .ref r1_q23, .ref r1_q31, .ref r1_q39, .ref r1_q47, .int 0])), (r1_q7, .inl (cy 0, 6, .inl (fun _ => 0))), (r1_q15, .inl (cy 0, 24, .inl (fun _ => 0))), (r1_q23, .inl (cy 0, 24, .inl (fun _ => 0))), (r1_q31, .inl (cy 0, 24, .inl (fun _ => 0))), (r1_q39, .inl (cy 0, 24, .inl (fun _ => 0))), (r1_q47, .inl (cy 0, 24, .inl (fun _ => 0))), (q18, .inl (cy 0, 6, .inl (fun _ => 0)))] := hD
  refine lv_aload_n hx hb dd_X6_init_28 rfl (lv_at hl 0 rfl) ?_
  refine lv_iconst (v := 0) hx hb dd_X6_init_29 (by decide) ?_
  refine va_put (D := D) (ci := 5) (v := .int 0) (ty := (.int)) (C := RX6) (T := TX6) (N := 5) hx hb hts zi_X6 tyX6 tyX6_ok nmX6 hown hK hP hD hS 0 rfl rfl 3 (by decide) (hts _ wd_227) (fun _ h9 => h9) rfl (by decide +kernel) rfl rfl (Nat.le_of_ble_eq_true rfl) dd_X6_init_30 (fun H locs hP hD hS => ?_)
  have hP : va_P D vwCl [(h0, .inr (5, [.ref q5, .ref q18, .int 0, .int 0, .int 0])), (q5, .inr (2, [.ref r1_q7, .ref r1_q15, .ref r1_q23, .ref r1_q31, .ref r1_q39, .ref r1_q47, .int 0])), (r1_q7, .inl (cy 0, 6, .inl (fun _ => 0))), (r1_q15, .inl (cy 0, 24, .inl (fun _ => 0))), (r1_q23, .inl (cy 0, 24, .inl (fun _ => 0))), (r1_q31, .inl (cy 0, 24, .inl (fun _ => 0))), (r1_q39, .inl (cy 0, 24, .inl (fun _ => 0))), (r1_q47, .inl (cy 0, 24, .inl (fun _ => 0))), (q18, .inl (cy 0, 6, .inl (fun _ => 0)))] H := hP
  have hD : va_D A [(h0, .inr (5, [.ref q5, .ref q18, .int 0, .int 0, .int 0])), (q5, .inr (2, [.ref r1_q7, .ref r1_q15, .ref r1_q23, .ref r1_q31, .ref r1_q39, .ref r1_q47, .int 0])), (r1_q7, .inl (cy 0, 6, .inl (fun _ => 0))), (r1_q15, .inl (cy 0, 24, .inl (fun _ => 0))), (r1_q23, .inl (cy 0, 24, .inl (fun _ => 0))), (r1_q31, .inl (cy 0, 24, .inl (fun _ => 0))), (r1_q39, .inl (cy 0, 24, .inl (fun _ => 0))), (r1_q47, .inl (cy 0, 24, .inl (fun _ => 0))), (q18, .inl (cy 0, 6, .inl (fun _ => 0)))] := hD
  refine lv_aload_n hx hb dd_X6_init_33 rfl (lv_at hl 0 rfl) ?_
  refine lv_bipush (v := 20) hx hb dd_X6_init_34 (by decide) ?_
  refine va_put (D := D) (ci := 5) (v := .int 20) (ty := (.int)) (C := RX6) (T := TX6) (N := 5) hx hb hts zi_X6 tyX6 tyX6_ok nmX6 hown hK hP hD hS 0 rfl rfl 4 (by decide) (hts _ wd_228) (fun _ h9 => h9) rfl (by decide +kernel) rfl rfl (Nat.le_of_ble_eq_true rfl) dd_X6_init_36 (fun H locs hP hD hS => ?_)
  have hP : va_P D vwCl [(h0, .inr (5, [.ref q5, .ref q18, .int 0, .int 0, .int 20])), (q5, .inr (2, [.ref r1_q7, .ref r1_q15, .ref r1_q23, .ref r1_q31, .ref r1_q39, .ref r1_q47, .int 0])), (r1_q7, .inl (cy 0, 6, .inl (fun _ => 0))), (r1_q15, .inl (cy 0, 24, .inl (fun _ => 0))), (r1_q23, .inl (cy 0, 24, .inl (fun _ => 0))), (r1_q31, .inl (cy 0, 24, .inl (fun _ => 0))), (r1_q39, .inl (cy 0, 24, .inl (fun _ => 0))), (r1_q47, .inl (cy 0, 24, .inl (fun _ => 0))), (q18, .inl (cy 0, 6, .inl (fun _ => 0)))] H := hP
  have hD : va_D A [(h0, .inr (5, [.ref q5, .ref q18, .int 0, .int 0, .int 20])), (q5, .inr (2, [.ref r1_q7, .ref r1_q15, .ref r1_q23, .ref r1_q31, .ref r1_q39, .ref r1_q47, .int 0])), (r1_q7, .inl (cy 0, 6, .inl (fun _ => 0))), (r1_q15, .inl (cy 0, 24, .inl (fun _ => 0))), (r1_q23, .inl (cy 0, 24, .inl (fun _ => 0))), (r1_q31, .inl (cy 0, 24, .inl (fun _ => 0))), (r1_q39, .inl (cy 0, 24, .inl (fun _ => 0))), (r1_q47, .inl (cy 0, 24, .inl (fun _ => 0))), (q18, .inl (cy 0, 6, .inl (fun _ => 0)))] := hD
  exact W.vret hx hb hr (fun t ht hW => ⟨⟨(), rfl, trivial, q5, r1_q7, r1_q15, r1_q23, r1_q31, r1_q39, r1_q47, q18, by rw [ht]; exact hP, hD⟩, hS.F ht⟩) hS.2.2 dd_X6_init_39 hlocks
