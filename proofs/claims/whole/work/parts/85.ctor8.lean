/-! the model's own block -/
def ad9 (L : List Nat) (adS : Nat × Nat → Nat) : Nat × Nat → Nat := fun r => bif Nat.beq r.1 9 then L.getD r.2 0 else adS r
def bl9 : zBl := [(9, 8)]
def M9 : zM := (fun _ _ _ => 0, fun t j => bif Nat.beq t 9 && Nat.beq j 5 then 1 else 0)
def st0 : St := ((sk_0, [], []), fun _ => none, [], (0, 1), fun _ => 0)
theorem ad9_ge {L : List Nat} {adS : Nat × Nat → Nat} (t o : Nat) (h : 20 ≤ t) : ad9 L adS (t, o) = adS (t, o) := by
  have : Nat.beq t 9 = false := by
    cases hb : Nat.beq t 9 with
    | false => rfl
    | true => have := Nat.eq_of_beq_eq_true hb; omega
  unfold ad9
  rw [this]
  rfl
theorem zE_cg {ad ad' : Nat × Nat → Nat} {A : Nat → Prop} {U : State} (h : ∀ t o, 20 ≤ t → ad' (t, o) = ad (t, o)) (hE : zE ad A U) : zE ad' A U := by
  unfold zE zSI at *
  have e0 : (fun i => ad' (20 + i, 0)) = fun i => ad (20 + i, 0) := by funext i; exact h _ _ (by omega)
  have e1 : (fun i => ad' (20 + i, 1)) = fun i => ad (20 + i, 1) := by funext i; exact h _ _ (by omega)
  rw [e0, e1, h 30 0 (by omega)]
  exact ⟨hE.1, fun i hi => by rw [h (20 + i) 0 (by omega)]; exact hE.2.1 i hi, hE.2.2⟩
theorem RpM_0 {M : zM} {f : Nat → Int32} (h0 : ∀ j9, j9 < 153 → f j9 = 0) (e : M = zmw M9 9 1 f) : RpM M st0 := by
  have go : ∀ p, p ≠ 1 → M.1 9 p = fun _ => 0 := fun p hp => by rw [e, zmw_o hp]; rfl
  refine ⟨by rw [e, zmw_at]; exact RpW_0 h0, fun j hj => ⟨?_, fun r hr => by cases hr⟩, ⟨by decide, by rw [go 0 (by decide)]; rfl, fun i z hz => by cases hz⟩, ⟨by rw [e, zmw_2]; rfl, by rw [e, zmw_2]; rfl⟩, fun n hn => by rw [go 4 (by decide)]; rfl⟩
  rw [go 3 (by decide)]
  constructor
  · intro h; cases h
  · intro h; exact absurd rfl h
theorem ztc {kd : Nat → Nat} {sp : zSpec} {n nx : Nat} {X : zX} {ls : zLS} {st : List zV} {M : zM} (hg : (Nat.ble n st.length && Nat.ble (zwt (st.drop n)) 8) = true) (h : sp kd (st.take n).reverse M (fun r M' => X nx ls (r.toList ++ st.drop n) M')) : zt_call kd sp n nx X ls st M := by
  unfold zt_call
  rw [hg]
  exact h
theorem sp_beg9 (K : zK) (h : ∀ f : Nat → Int32, (∀ j9, j9 < 153 → f j9 = 0) → (∀ j9, 153 ≤ j9 → f j9 = M9.1 9 1 j9) → ∀ M' : zM, (M' = zmw M9 9 1 f) → K none M') : sp_X8_begin (zkd bl9) [zR 9 1] M9 K := by
  unfold sp_X8_begin
  exact ⟨rfl, Or.inl rfl, h⟩
def ciP8 (D : va_G) (cy : Nat → ClassId) (adS : Nat × Nat → Nat) (h0 sz : Nat) (o : va_E) : Array Value → State → Prop := va_Pc [.ref h0] (fun U => U.heap.size = sz ∧ va_P D vwCl [(h0, o)] U.heap ∧ va_K D vwCl (zty cy) U ∧ va_D (fun _ => True) [(h0, o)] ∧ zNW U ∧ zE adS (va_A [(h0, o)] sz) U)
theorem ciP8_blind {D : va_G} {cy : Nat → ClassId} {adS : Nat × Nat → Nat} {h0 sz : Nat} {o : va_E} : FrameBlind (ciP8 D cy adS h0 sz o) := fun a U g mk q => by
  obtain ⟨q0, q1, qP, qK, qD, qN, qE⟩ := q
  exact ⟨q0, q1, qP, va_K.moved (u := U) (U := U.calling g mk a) (Vm.Alike.refl U.vm) qK, qD, zNW_same (u := U) (U := U.calling g mk a) rfl qN, zE_same (u := U) (U := U.calling g mk a) rfl rfl qE⟩
theorem dd_X8_init_0 : decode cX8_init 0 = .ok (.aload_n 0, 1) := by decide +kernel
theorem dd_X8_init_1 : decode cX8_init 1 = .ok (.invokespecial 1, 3) := by decide +kernel
theorem dd_X8_init_4 : decode cX8_init 4 = .ok (.aload_n 0, 1) := by decide +kernel
theorem dd_X8_init_5 : decode cX8_init 5 = .ok (.sipush 915, 3) := by decide +kernel
theorem dd_X8_init_8 : decode cX8_init 8 = .ok (.newarray .int, 2) := by decide +kernel
theorem dd_X8_init_10 : decode cX8_init 10 = .ok (.putfield 7, 3) := by decide +kernel
theorem dd_X8_init_13 : decode cX8_init 13 = .ok (.aload_n 0, 1) := by decide +kernel
theorem dd_X8_init_14 : decode cX8_init 14 = .ok (.sipush 1830, 3) := by decide +kernel
theorem dd_X8_init_17 : decode cX8_init 17 = .ok (.newarray .int, 2) := by decide +kernel
theorem dd_X8_init_19 : decode cX8_init 19 = .ok (.putfield 13, 3) := by decide +kernel
theorem dd_X8_init_22 : decode cX8_init 22 = .ok (.aload_n 0, 1) := by decide +kernel
theorem dd_X8_init_23 : decode cX8_init 23 = .ok (.iconst 2, 1) := by decide +kernel
theorem dd_X8_init_24 : decode cX8_init 24 = .ok (.newarray .boolean, 2) := by decide +kernel
theorem dd_X8_init_26 : decode cX8_init 26 = .ok (.putfield 16, 3) := by decide +kernel
theorem dd_X8_init_29 : decode cX8_init 29 = .ok (.aload_n 0, 1) := by decide +kernel
theorem dd_X8_init_30 : decode cX8_init 30 = .ok (.iconst 3, 1) := by decide +kernel
theorem dd_X8_init_31 : decode cX8_init 31 = .ok (.newarray .int, 2) := by decide +kernel
theorem dd_X8_init_33 : decode cX8_init 33 = .ok (.putfield 20, 3) := by decide +kernel
theorem dd_X8_init_36 : decode cX8_init 36 = .ok (.aload_n 0, 1) := by decide +kernel
theorem dd_X8_init_37 : decode cX8_init 37 = .ok (.lconst 1, 1) := by decide +kernel
theorem dd_X8_init_38 : decode cX8_init 38 = .ok (.putfield 23, 3) := by decide +kernel
theorem dd_X8_init_41 : decode cX8_init 41 = .ok (.aload_n 0, 1) := by decide +kernel
theorem dd_X8_init_42 : decode cX8_init 42 = .ok (.bipush 127, 2) := by decide +kernel
theorem dd_X8_init_44 : decode cX8_init 44 = .ok (.newarray .int, 2) := by decide +kernel
theorem dd_X8_init_46 : decode cX8_init 46 = .ok (.putfield 27, 3) := by decide +kernel
theorem dd_X8_init_49 : decode cX8_init 49 = .ok (.aload_n 0, 1) := by decide +kernel
theorem dd_X8_init_50 : decode cX8_init 50 = .ok (.sipush 508, 3) := by decide +kernel
theorem dd_X8_init_53 : decode cX8_init 53 = .ok (.newarray .int, 2) := by decide +kernel
theorem dd_X8_init_55 : decode cX8_init 55 = .ok (.putfield 30, 3) := by decide +kernel
theorem dd_X8_init_58 : decode cX8_init 58 = .ok (.aload_n 0, 1) := by decide +kernel
theorem dd_X8_init_59 : decode cX8_init 59 = .ok (.iconst 4, 1) := by decide +kernel
theorem dd_X8_init_60 : decode cX8_init 60 = .ok (.newarray .int, 2) := by decide +kernel
theorem dd_X8_init_62 : decode cX8_init 62 = .ok (.putfield 33, 3) := by decide +kernel
theorem dd_X8_init_65 : decode cX8_init 65 = .ok (.aload_n 0, 1) := by decide +kernel
theorem dd_X8_init_66 : decode cX8_init 66 = .ok (.iconst 4, 1) := by decide +kernel
theorem dd_X8_init_67 : decode cX8_init 67 = .ok (.newarray .int, 2) := by decide +kernel
theorem dd_X8_init_69 : decode cX8_init 69 = .ok (.putfield 36, 3) := by decide +kernel
theorem dd_X8_init_72 : decode cX8_init 72 = .ok (.aload_n 0, 1) := by decide +kernel
theorem dd_X8_init_73 : decode cX8_init 73 = .ok (.sipush 150, 3) := by decide +kernel
theorem dd_X8_init_76 : decode cX8_init 76 = .ok (.newarray .int, 2) := by decide +kernel
theorem dd_X8_init_78 : decode cX8_init 78 = .ok (.putfield 39, 3) := by decide +kernel
theorem dd_X8_init_81 : decode cX8_init 81 = .ok (.aload_n 0, 1) := by decide +kernel
theorem dd_X8_init_82 : decode cX8_init 82 = .ok (.sipush 153, 3) := by decide +kernel
theorem dd_X8_init_85 : decode cX8_init 85 = .ok (.newarray .int, 2) := by decide +kernel
theorem dd_X8_init_87 : decode cX8_init 87 = .ok (.putfield 42, 3) := by decide +kernel
theorem dd_X8_init_90 : decode cX8_init 90 = .ok (.aload_n 0, 1) := by decide +kernel
theorem dd_X8_init_91 : decode cX8_init 91 = .ok (.iconst 4, 1) := by decide +kernel
theorem dd_X8_init_92 : decode cX8_init 92 = .ok (.newarray .int, 2) := by decide +kernel
theorem dd_X8_init_94 : decode cX8_init 94 = .ok (.putfield 45, 3) := by decide +kernel
theorem dd_X8_init_97 : decode cX8_init 97 = .ok (.aload_n 0, 1) := by decide +kernel
theorem dd_X8_init_98 : decode cX8_init 98 = .ok (.getfield 7, 3) := by decide +kernel
theorem dd_X8_init_101 : decode cX8_init 101 = .ok (.invokestatic 48, 3) := by decide +kernel
theorem dd_X8_init_104 : decode cX8_init 104 = .ok (.return_, 1) := by decide +kernel
def rm_X8 : Room := { frames := 2, cells := 11, slots := 3700, locals := 80 }
def ciB_X8 (D : va_G) (cy : Nat → ClassId) (adS : Nat × Nat → Nat) (h0 : Nat) (A : Nat → Prop) (t : State) : Prop := ∃ (L : List Nat) (M : zM), L.getD 0 0 = h0 ∧ va_P D vwCl (zwl cy (ad9 L adS) bl9 M) t.heap ∧ va_D A (zwl cy (ad9 L adS) bl9 M) ∧ RpM M st0
theorem zsl9 : zsl bl9 = [((9, 0), .inr (.inl (7, [zR 9 1, zR 9 2, zR 9 3, zR 9 4, zL 0, zL 0, zR 9 5, zI 0, zI 0, zR 9 6, zI 0, zI 0, zR 9 7, zR 9 8, zI 0, zR 9 9, zI 0, zI 0, zI 0, zI 0, zI 0, zR 9 10, zR 9 11]))), ((9, 1), .inl (0, 915)), ((9, 2), .inl (0, 1830)), ((9, 3), .inl (2, 2)), ((9, 4), .inl (0, 3)), ((9, 5), .inl (0, 127)), ((9, 6), .inl (0, 508)), ((9, 7), .inl (0, 4)), ((9, 8), .inl (0, 4)), ((9, 9), .inl (0, 150)), ((9, 10), .inl (0, 153)), ((9, 11), .inl (0, 4))] := rfl
theorem mi9 {ad : Nat × Nat → Nat} : ([zR 9 1, zR 9 2, zR 9 3, zR 9 4, zL 0, zL 0, zR 9 5, zI 0, zI 0, zR 9 6, zI 0, zI 0, zR 9 7, zR 9 8, zI 0, zR 9 9, zI 0, zI 0, zI 0, zI 0, zI 0, zR 9 10, zR 9 11] : List zV).mapIdx (fun j v => zfv ad M9 (9, 0) j v) = [.ref (ad (9, 1)), .ref (ad (9, 2)), .ref (ad (9, 3)), .ref (ad (9, 4)), .long 0, .long 1, .ref (ad (9, 5)), .int 0, .int 0, .ref (ad (9, 6)), .int 0, .int 0, .ref (ad (9, 7)), .ref (ad (9, 8)), .int 0, .ref (ad (9, 9)), .int 0, .int 0, .int 0, .int 0, .int 0, .ref (ad (9, 10)), .ref (ad (9, 11))] := by
  simp only [List.mapIdx_cons, List.mapIdx_nil]
  rfl
theorem zwl9 {cy : Nat → ClassId} {adS : Nat × Nat → Nat} {a0 a1 a2 a3 a4 a5 a6 a7 a8 a9 a10 a11 : Nat} : zwl cy (ad9 [a0, a1, a2, a3, a4, a5, a6, a7, a8, a9, a10, a11] adS) bl9 M9 = [(a0, .inr (7, [.ref a1, .ref a2, .ref a3, .ref a4, .long 0, .long 1, .ref a5, .int 0, .int 0, .ref a6, .int 0, .int 0, .ref a7, .ref a8, .int 0, .ref a9, .int 0, .int 0, .int 0, .int 0, .int 0, .ref a10, .ref a11])), (a1, .inl (cy 0, 915, .inl (fun _ => 0))), (a2, .inl (cy 0, 1830, .inl (fun _ => 0))), (a3, .inl (cy 2, 2, .inl (fun _ => 0))), (a4, .inl (cy 0, 3, .inl (fun _ => 0))), (a5, .inl (cy 0, 127, .inl (fun _ => 0))), (a6, .inl (cy 0, 508, .inl (fun _ => 0))), (a7, .inl (cy 0, 4, .inl (fun _ => 0))), (a8, .inl (cy 0, 4, .inl (fun _ => 0))), (a9, .inl (cy 0, 150, .inl (fun _ => 0))), (a10, .inl (cy 0, 153, .inl (fun _ => 0))), (a11, .inl (cy 0, 4, .inl (fun _ => 0)))] := by
  unfold zwl
  rw [zsl9]
  simp only [List.map_cons, List.map_nil]
  show (_, Sum.inr (7, List.mapIdx _ _)) :: _ = _
  rw [mi9]
  rfl
set_option maxRecDepth 100000 in
set_option maxHeartbeats 4000000 in
theorem ci_X8 (l : Launch) (D : va_G) (cy : Nat → ClassId) (adS : Nat × Nat → Nat) (h0 sz : Nat) : Met l yX8_init (zws yX8_init cX8_init 1 none) rm_X8 (ciP8 D cy adS h0 sz (.inr (7, [.null, .null, .null, .null, .long 0, .long 0, .null, .int 0, .int 0, .null, .int 0, .int 0, .null, .null, .int 0, .null, .int 0, .int 0, .int 0, .int 0, .int 0, .null, .null]))) (va_Qv (fun _ : Unit => True) (fun _ t => ciB_X8 D cy adS h0 (va_A [(h0, .inr (7, [.null, .null, .null, .null, .long 0, .long 0, .null, .int 0, .int 0, .null, .int 0, .int 0, .null, .null, .int 0, .null, .int 0, .int 0, .int 0, .int 0, .int 0, .null, .null]))] sz) t) (va_A [(h0, .inr (7, [.null, .null, .null, .null, .long 0, .long 0, .null, .int 0, .int 0, .null, .int 0, .int 0, .null, .null, .int 0, .null, .int 0, .int 0, .int 0, .int 0, .int 0, .null, .null]))] sz)) 11 3700 (va_A [(h0, .inr (7, [.null, .null, .null, .null, .long 0, .long 0, .null, .int 0, .int 0, .null, .int 0, .int 0, .null, .null, .int 0, .null, .int 0, .int 0, .int 0, .int 0, .int 0, .null, .null]))] sz) := by
  refine Met.ofW (cc := cX8_init) (maxL := 1) (ret := none) (ws := zws yX8_init cX8_init 1 none) (ws' := zW) (by decide) rfl ?_
  intro p e s m args below meth c s₁ B hml hv
  obtain ⟨rfl, hsz, hP, hK, hD0, hN, hE⟩ := hv
  have hx := B.exec
  have hb := B.bytes
  have hr := B.returns
  have hts : ∀ w ∈ zW, w.before _ s = true := fun w hw => atoms_spec (ws := zws yX8_init cX8_init 1 none) B.pre w (List.mem_cons_of_mem _ hw)
  have hown : s.vm.findClass RX8 = some m.cls := findClass_of_methodNamed B.named
  have hlocks := B.notSynchronized
  have hin : meth.name = "<init>" := (name_of_methodNamed B.named B.method).1
  subst hsz
  have hD := hD0.self (sz := s.heap.size)
  unfold ciB_X8
  generalize hAe : va_A [(h0, .inr (7, [.null, .null, .null, .null, .long 0, .long 0, .null, .int 0, .int 0, .null, .int 0, .int 0, .null, .null, .int 0, .null, .int 0, .int 0, .int 0, .int 0, .int 0, .null, .null]))] s.heap.size = A at hD hE ⊢
  have hA : ∀ q : Nat, s.heap.size ≤ q → A q := fun q h => by rw [← hAe]; exact Or.inr h
  have hS : va_S A s.heap s.heap [] := va_S.rf
  have hl := lv_entry ([.ref h0]) (n := 1) (Nat.le_of_ble_eq_true rfl)
  rw [lg_entry_eq]
  generalize (lg_sl ([.ref h0]) ++ List.replicate (1 - (lg_sl ([.ref h0])).length) Slot.unset).toArray = ls at hl ⊢
  have hl : lv_has ls 1 [(0, .ref h0)] := hl
  refine lv_aload_n hx hb dd_X8_init_0 rfl (lv_at hl 0 rfl) ?_
  refine W.objInit hx hb hown (hts _ wd_836) (hts _ wd_122) (hts _ wd_123) rfl (by rw [hml]; exact hl.1) rfl dd_X8_init_1 (Nat.le_of_ble_eq_true rfl) (Nat.le_of_ble_eq_true rfl) ?_
  refine W.eq (g2 := F0 m 4 ls []) rfl ?_
  refine lv_aload_n hx hb dd_X8_init_4 rfl (lv_at hl 0 rfl) ?_
  refine lv_sipush (v := 915) hx hb dd_X8_init_5 (by decide) ?_
  refine zc_newa0 (N := 915) hx hb (hts _ wd_160) hK hP hD hS hA (by decide) (by decide) (by decide) (Nat.le_of_ble_eq_true rfl) (Nat.le_of_ble_eq_true rfl) dd_X8_init_8 (fun q8 H hP hD hS => ?_)
  have hP : va_P D vwCl [(h0, .inr (7, [.null, .null, .null, .null, .long 0, .long 0, .null, .int 0, .int 0, .null, .int 0, .int 0, .null, .null, .int 0, .null, .int 0, .int 0, .int 0, .int 0, .int 0, .null, .null])), (q8, .inl (cy 0, 915, .inl (fun _ => 0)))] H := hP
  have hD : va_D A [(h0, .inr (7, [.null, .null, .null, .null, .long 0, .long 0, .null, .int 0, .int 0, .null, .int 0, .int 0, .null, .null, .int 0, .null, .int 0, .int 0, .int 0, .int 0, .int 0, .null, .null])), (q8, .inl (cy 0, 915, .inl (fun _ => 0)))] := hD
  refine W.widen (k := 1) (n := 915) (Nat.le_of_ble_eq_true rfl) (Nat.le_of_ble_eq_true rfl) ?_
  refine va_putF (D := D) (ci := 7) (v := .ref q8) (ty := (.array .int)) (C := RX8) (T := TX8) (N := 23) hx hb hts zi_X8 tyX8 tyX8_ok nmX8 hown hK hP hD hS 0 rfl rfl 0 (by decide) (hts _ wd_840) (fun _ h9 => h9) rfl hin rfl (by decide +kernel) rfl rfl (Nat.le_of_ble_eq_true rfl) dd_X8_init_10 (fun H locs hP hD hS => ?_)
  have hP : va_P D vwCl [(h0, .inr (7, [.ref q8, .null, .null, .null, .long 0, .long 0, .null, .int 0, .int 0, .null, .int 0, .int 0, .null, .null, .int 0, .null, .int 0, .int 0, .int 0, .int 0, .int 0, .null, .null])), (q8, .inl (cy 0, 915, .inl (fun _ => 0)))] H := hP
  have hD : va_D A [(h0, .inr (7, [.ref q8, .null, .null, .null, .long 0, .long 0, .null, .int 0, .int 0, .null, .int 0, .int 0, .null, .null, .int 0, .null, .int 0, .int 0, .int 0, .int 0, .int 0, .null, .null])), (q8, .inl (cy 0, 915, .inl (fun _ => 0)))] := hD
  refine lv_aload_n hx hb dd_X8_init_13 rfl (lv_at hl 0 rfl) ?_
  refine lv_sipush (v := 1830) hx hb dd_X8_init_14 (by decide) ?_
  refine zc_newa0 (N := 1830) hx hb (hts _ wd_160) hK hP hD hS hA (by decide) (by decide) (by decide) (Nat.le_of_ble_eq_true rfl) (Nat.le_of_ble_eq_true rfl) dd_X8_init_17 (fun q17 H hP hD hS => ?_)
  have hP : va_P D vwCl [(h0, .inr (7, [.ref q8, .null, .null, .null, .long 0, .long 0, .null, .int 0, .int 0, .null, .int 0, .int 0, .null, .null, .int 0, .null, .int 0, .int 0, .int 0, .int 0, .int 0, .null, .null])), (q8, .inl (cy 0, 915, .inl (fun _ => 0))), (q17, .inl (cy 0, 1830, .inl (fun _ => 0)))] H := hP
  have hD : va_D A [(h0, .inr (7, [.ref q8, .null, .null, .null, .long 0, .long 0, .null, .int 0, .int 0, .null, .int 0, .int 0, .null, .null, .int 0, .null, .int 0, .int 0, .int 0, .int 0, .int 0, .null, .null])), (q8, .inl (cy 0, 915, .inl (fun _ => 0))), (q17, .inl (cy 0, 1830, .inl (fun _ => 0)))] := hD
  refine W.widen (k := 2) (n := 2745) (Nat.le_of_ble_eq_true rfl) (Nat.le_of_ble_eq_true rfl) ?_
  refine va_putF (D := D) (ci := 7) (v := .ref q17) (ty := (.array .int)) (C := RX8) (T := TX8) (N := 23) hx hb hts zi_X8 tyX8 tyX8_ok nmX8 hown hK hP hD hS 0 rfl rfl 1 (by decide) (hts _ wd_841) (fun _ h9 => h9) rfl hin rfl (by decide +kernel) rfl rfl (Nat.le_of_ble_eq_true rfl) dd_X8_init_19 (fun H locs hP hD hS => ?_)
  have hP : va_P D vwCl [(h0, .inr (7, [.ref q8, .ref q17, .null, .null, .long 0, .long 0, .null, .int 0, .int 0, .null, .int 0, .int 0, .null, .null, .int 0, .null, .int 0, .int 0, .int 0, .int 0, .int 0, .null, .null])), (q8, .inl (cy 0, 915, .inl (fun _ => 0))), (q17, .inl (cy 0, 1830, .inl (fun _ => 0)))] H := hP
  have hD : va_D A [(h0, .inr (7, [.ref q8, .ref q17, .null, .null, .long 0, .long 0, .null, .int 0, .int 0, .null, .int 0, .int 0, .null, .null, .int 0, .null, .int 0, .int 0, .int 0, .int 0, .int 0, .null, .null])), (q8, .inl (cy 0, 915, .inl (fun _ => 0))), (q17, .inl (cy 0, 1830, .inl (fun _ => 0)))] := hD
  refine lv_aload_n hx hb dd_X8_init_22 rfl (lv_at hl 0 rfl) ?_
  refine lv_iconst (v := 2) hx hb dd_X8_init_23 (by decide) ?_
  refine zc_newa2 (N := 2) hx hb (hts _ wd_910) hK hP hD hS hA (by decide) (by decide) (by decide) (Nat.le_of_ble_eq_true rfl) (Nat.le_of_ble_eq_true rfl) dd_X8_init_24 (fun q24 H hP hD hS => ?_)
  have hP : va_P D vwCl [(h0, .inr (7, [.ref q8, .ref q17, .null, .null, .long 0, .long 0, .null, .int 0, .int 0, .null, .int 0, .int 0, .null, .null, .int 0, .null, .int 0, .int 0, .int 0, .int 0, .int 0, .null, .null])), (q8, .inl (cy 0, 915, .inl (fun _ => 0))), (q17, .inl (cy 0, 1830, .inl (fun _ => 0))), (q24, .inl (cy 2, 2, .inl (fun _ => 0)))] H := hP
  have hD : va_D A [(h0, .inr (7, [.ref q8, .ref q17, .null, .null, .long 0, .long 0, .null, .int 0, .int 0, .null, .int 0, .int 0, .null, .null, .int 0, .null, .int 0, .int 0, .int 0, .int 0, .int 0, .null, .null])), (q8, .inl (cy 0, 915, .inl (fun _ => 0))), (q17, .inl (cy 0, 1830, .inl (fun _ => 0))), (q24, .inl (cy 2, 2, .inl (fun _ => 0)))] := hD
  refine W.widen (k := 3) (n := 2747) (Nat.le_of_ble_eq_true rfl) (Nat.le_of_ble_eq_true rfl) ?_
  refine va_putF (D := D) (ci := 7) (v := .ref q24) (ty := (.array .boolean)) (C := RX8) (T := TX8) (N := 23) hx hb hts zi_X8 tyX8 tyX8_ok nmX8 hown hK hP hD hS 0 rfl rfl 2 (by decide) (hts _ wd_842) (fun _ h9 => h9) rfl hin rfl (by decide +kernel) rfl rfl (Nat.le_of_ble_eq_true rfl) dd_X8_init_26 (fun H locs hP hD hS => ?_)
  have hP : va_P D vwCl [(h0, .inr (7, [.ref q8, .ref q17, .ref q24, .null, .long 0, .long 0, .null, .int 0, .int 0, .null, .int 0, .int 0, .null, .null, .int 0, .null, .int 0, .int 0, .int 0, .int 0, .int 0, .null, .null])), (q8, .inl (cy 0, 915, .inl (fun _ => 0))), (q17, .inl (cy 0, 1830, .inl (fun _ => 0))), (q24, .inl (cy 2, 2, .inl (fun _ => 0)))] H := hP
  have hD : va_D A [(h0, .inr (7, [.ref q8, .ref q17, .ref q24, .null, .long 0, .long 0, .null, .int 0, .int 0, .null, .int 0, .int 0, .null, .null, .int 0, .null, .int 0, .int 0, .int 0, .int 0, .int 0, .null, .null])), (q8, .inl (cy 0, 915, .inl (fun _ => 0))), (q17, .inl (cy 0, 1830, .inl (fun _ => 0))), (q24, .inl (cy 2, 2, .inl (fun _ => 0)))] := hD
  refine lv_aload_n hx hb dd_X8_init_29 rfl (lv_at hl 0 rfl) ?_
  refine lv_iconst (v := 3) hx hb dd_X8_init_30 (by decide) ?_
  refine zc_newa0 (N := 3) hx hb (hts _ wd_160) hK hP hD hS hA (by decide) (by decide) (by decide) (Nat.le_of_ble_eq_true rfl) (Nat.le_of_ble_eq_true rfl) dd_X8_init_31 (fun q31 H hP hD hS => ?_)
  have hP : va_P D vwCl [(h0, .inr (7, [.ref q8, .ref q17, .ref q24, .null, .long 0, .long 0, .null, .int 0, .int 0, .null, .int 0, .int 0, .null, .null, .int 0, .null, .int 0, .int 0, .int 0, .int 0, .int 0, .null, .null])), (q8, .inl (cy 0, 915, .inl (fun _ => 0))), (q17, .inl (cy 0, 1830, .inl (fun _ => 0))), (q24, .inl (cy 2, 2, .inl (fun _ => 0))), (q31, .inl (cy 0, 3, .inl (fun _ => 0)))] H := hP
  have hD : va_D A [(h0, .inr (7, [.ref q8, .ref q17, .ref q24, .null, .long 0, .long 0, .null, .int 0, .int 0, .null, .int 0, .int 0, .null, .null, .int 0, .null, .int 0, .int 0, .int 0, .int 0, .int 0, .null, .null])), (q8, .inl (cy 0, 915, .inl (fun _ => 0))), (q17, .inl (cy 0, 1830, .inl (fun _ => 0))), (q24, .inl (cy 2, 2, .inl (fun _ => 0))), (q31, .inl (cy 0, 3, .inl (fun _ => 0)))] := hD
  refine W.widen (k := 4) (n := 2750) (Nat.le_of_ble_eq_true rfl) (Nat.le_of_ble_eq_true rfl) ?_
  refine va_putF (D := D) (ci := 7) (v := .ref q31) (ty := (.array .int)) (C := RX8) (T := TX8) (N := 23) hx hb hts zi_X8 tyX8 tyX8_ok nmX8 hown hK hP hD hS 0 rfl rfl 3 (by decide) (hts _ wd_843) (fun _ h9 => h9) rfl hin rfl (by decide +kernel) rfl rfl (Nat.le_of_ble_eq_true rfl) dd_X8_init_33 (fun H locs hP hD hS => ?_)
  have hP : va_P D vwCl [(h0, .inr (7, [.ref q8, .ref q17, .ref q24, .ref q31, .long 0, .long 0, .null, .int 0, .int 0, .null, .int 0, .int 0, .null, .null, .int 0, .null, .int 0, .int 0, .int 0, .int 0, .int 0, .null, .null])), (q8, .inl (cy 0, 915, .inl (fun _ => 0))), (q17, .inl (cy 0, 1830, .inl (fun _ => 0))), (q24, .inl (cy 2, 2, .inl (fun _ => 0))), (q31, .inl (cy 0, 3, .inl (fun _ => 0)))] H := hP
  have hD : va_D A [(h0, .inr (7, [.ref q8, .ref q17, .ref q24, .ref q31, .long 0, .long 0, .null, .int 0, .int 0, .null, .int 0, .int 0, .null, .null, .int 0, .null, .int 0, .int 0, .int 0, .int 0, .int 0, .null, .null])), (q8, .inl (cy 0, 915, .inl (fun _ => 0))), (q17, .inl (cy 0, 1830, .inl (fun _ => 0))), (q24, .inl (cy 2, 2, .inl (fun _ => 0))), (q31, .inl (cy 0, 3, .inl (fun _ => 0)))] := hD
  refine lv_aload_n hx hb dd_X8_init_36 rfl (lv_at hl 0 rfl) ?_
  refine lv_lconst (v := 1) hx hb dd_X8_init_37 (by decide) ?_
  refine va_put (D := D) (ci := 7) (v := .long 1) (ty := (.long)) (C := RX8) (T := TX8) (N := 23) hx hb hts zi_X8 tyX8 tyX8_ok nmX8 hown hK hP hD hS 0 rfl rfl 5 (by decide) (hts _ wd_845) (fun _ h9 => h9) rfl (by decide +kernel) rfl rfl (Nat.le_of_ble_eq_true rfl) dd_X8_init_38 (fun H locs hP hD hS => ?_)
  have hP : va_P D vwCl [(h0, .inr (7, [.ref q8, .ref q17, .ref q24, .ref q31, .long 0, .long 1, .null, .int 0, .int 0, .null, .int 0, .int 0, .null, .null, .int 0, .null, .int 0, .int 0, .int 0, .int 0, .int 0, .null, .null])), (q8, .inl (cy 0, 915, .inl (fun _ => 0))), (q17, .inl (cy 0, 1830, .inl (fun _ => 0))), (q24, .inl (cy 2, 2, .inl (fun _ => 0))), (q31, .inl (cy 0, 3, .inl (fun _ => 0)))] H := hP
  have hD : va_D A [(h0, .inr (7, [.ref q8, .ref q17, .ref q24, .ref q31, .long 0, .long 1, .null, .int 0, .int 0, .null, .int 0, .int 0, .null, .null, .int 0, .null, .int 0, .int 0, .int 0, .int 0, .int 0, .null, .null])), (q8, .inl (cy 0, 915, .inl (fun _ => 0))), (q17, .inl (cy 0, 1830, .inl (fun _ => 0))), (q24, .inl (cy 2, 2, .inl (fun _ => 0))), (q31, .inl (cy 0, 3, .inl (fun _ => 0)))] := hD
  refine lv_aload_n hx hb dd_X8_init_41 rfl (lv_at hl 0 rfl) ?_
  refine lv_bipush (v := 127) hx hb dd_X8_init_42 (by decide) ?_
  refine zc_newa0 (N := 127) hx hb (hts _ wd_160) hK hP hD hS hA (by decide) (by decide) (by decide) (Nat.le_of_ble_eq_true rfl) (Nat.le_of_ble_eq_true rfl) dd_X8_init_44 (fun q44 H hP hD hS => ?_)
  have hP : va_P D vwCl [(h0, .inr (7, [.ref q8, .ref q17, .ref q24, .ref q31, .long 0, .long 1, .null, .int 0, .int 0, .null, .int 0, .int 0, .null, .null, .int 0, .null, .int 0, .int 0, .int 0, .int 0, .int 0, .null, .null])), (q8, .inl (cy 0, 915, .inl (fun _ => 0))), (q17, .inl (cy 0, 1830, .inl (fun _ => 0))), (q24, .inl (cy 2, 2, .inl (fun _ => 0))), (q31, .inl (cy 0, 3, .inl (fun _ => 0))), (q44, .inl (cy 0, 127, .inl (fun _ => 0)))] H := hP
  have hD : va_D A [(h0, .inr (7, [.ref q8, .ref q17, .ref q24, .ref q31, .long 0, .long 1, .null, .int 0, .int 0, .null, .int 0, .int 0, .null, .null, .int 0, .null, .int 0, .int 0, .int 0, .int 0, .int 0, .null, .null])), (q8, .inl (cy 0, 915, .inl (fun _ => 0))), (q17, .inl (cy 0, 1830, .inl (fun _ => 0))), (q24, .inl (cy 2, 2, .inl (fun _ => 0))), (q31, .inl (cy 0, 3, .inl (fun _ => 0))), (q44, .inl (cy 0, 127, .inl (fun _ => 0)))] := hD
  refine W.widen (k := 5) (n := 2877) (Nat.le_of_ble_eq_true rfl) (Nat.le_of_ble_eq_true rfl) ?_
  refine va_putF (D := D) (ci := 7) (v := .ref q44) (ty := (.array .int)) (C := RX8) (T := TX8) (N := 23) hx hb hts zi_X8 tyX8 tyX8_ok nmX8 hown hK hP hD hS 0 rfl rfl 6 (by decide) (hts _ wd_846) (fun _ h9 => h9) rfl hin rfl (by decide +kernel) rfl rfl (Nat.le_of_ble_eq_true rfl) dd_X8_init_46 (fun H locs hP hD hS => ?_)
  have hP : va_P D vwCl [(h0, .inr (7, [.ref q8, .ref q17, .ref q24, .ref q31, .long 0, .long 1, .ref q44, .int 0, .int 0, .null, .int 0, .int 0, .null, .null, .int 0, .null, .int 0, .int 0, .int 0, .int 0, .int 0, .null, .null])), (q8, .inl (cy 0, 915, .inl (fun _ => 0))), (q17, .inl (cy 0, 1830, .inl (fun _ => 0))), (q24, .inl (cy 2, 2, .inl (fun _ => 0))), (q31, .inl (cy 0, 3, .inl (fun _ => 0))), (q44, .inl (cy 0, 127, .inl (fun _ => 0)))] H := hP
  have hD : va_D A [(h0, .inr (7, [.ref q8, .ref q17, .ref q24, .ref q31, .long 0, .long 1, .ref q44, .int 0, .int 0, .null, .int 0, .int 0, .null, .null, .int 0, .null, .int 0, .int 0, .int 0, .int 0, .int 0, .null, .null])), (q8, .inl (cy 0, 915, .inl (fun _ => 0))), (q17, .inl (cy 0, 1830, .inl (fun _ => 0))), (q24, .inl (cy 2, 2, .inl (fun _ => 0))), (q31, .inl (cy 0, 3, .inl (fun _ => 0))), (q44, .inl (cy 0, 127, .inl (fun _ => 0)))] := hD
  refine lv_aload_n hx hb dd_X8_init_49 rfl (lv_at hl 0 rfl) ?_
  refine lv_sipush (v := 508) hx hb dd_X8_init_50 (by decide) ?_
  refine zc_newa0 (N := 508) hx hb (hts _ wd_160) hK hP hD hS hA (by decide) (by decide) (by decide) (Nat.le_of_ble_eq_true rfl) (Nat.le_of_ble_eq_true rfl) dd_X8_init_53 (fun q53 H hP hD hS => ?_)
  have hP : va_P D vwCl [(h0, .inr (7, [.ref q8, .ref q17, .ref q24, .ref q31, .long 0, .long 1, .ref q44, .int 0, .int 0, .null, .int 0, .int 0, .null, .null, .int 0, .null, .int 0, .int 0, .int 0, .int 0, .int 0, .null, .null])), (q8, .inl (cy 0, 915, .inl (fun _ => 0))), (q17, .inl (cy 0, 1830, .inl (fun _ => 0))), (q24, .inl (cy 2, 2, .inl (fun _ => 0))), (q31, .inl (cy 0, 3, .inl (fun _ => 0))), (q44, .inl (cy 0, 127, .inl (fun _ => 0))), (q53, .inl (cy 0, 508, .inl (fun _ => 0)))] H := hP
  have hD : va_D A [(h0, .inr (7, [.ref q8, .ref q17, .ref q24, .ref q31, .long 0, .long 1, .ref q44, .int 0, .int 0, .null, .int 0, .int 0, .null, .null, .int 0, .null, .int 0, .int 0, .int 0, .int 0, .int 0, .null, .null])), (q8, .inl (cy 0, 915, .inl (fun _ => 0))), (q17, .inl (cy 0, 1830, .inl (fun _ => 0))), (q24, .inl (cy 2, 2, .inl (fun _ => 0))), (q31, .inl (cy 0, 3, .inl (fun _ => 0))), (q44, .inl (cy 0, 127, .inl (fun _ => 0))), (q53, .inl (cy 0, 508, .inl (fun _ => 0)))] := hD
  refine W.widen (k := 6) (n := 3385) (Nat.le_of_ble_eq_true rfl) (Nat.le_of_ble_eq_true rfl) ?_
  refine va_putF (D := D) (ci := 7) (v := .ref q53) (ty := (.array .int)) (C := RX8) (T := TX8) (N := 23) hx hb hts zi_X8 tyX8 tyX8_ok nmX8 hown hK hP hD hS 0 rfl rfl 9 (by decide) (hts _ wd_849) (fun _ h9 => h9) rfl hin rfl (by decide +kernel) rfl rfl (Nat.le_of_ble_eq_true rfl) dd_X8_init_55 (fun H locs hP hD hS => ?_)
  have hP : va_P D vwCl [(h0, .inr (7, [.ref q8, .ref q17, .ref q24, .ref q31, .long 0, .long 1, .ref q44, .int 0, .int 0, .ref q53, .int 0, .int 0, .null, .null, .int 0, .null, .int 0, .int 0, .int 0, .int 0, .int 0, .null, .null])), (q8, .inl (cy 0, 915, .inl (fun _ => 0))), (q17, .inl (cy 0, 1830, .inl (fun _ => 0))), (q24, .inl (cy 2, 2, .inl (fun _ => 0))), (q31, .inl (cy 0, 3, .inl (fun _ => 0))), (q44, .inl (cy 0, 127, .inl (fun _ => 0))), (q53, .inl (cy 0, 508, .inl (fun _ => 0)))] H := hP
  have hD : va_D A [(h0, .inr (7, [.ref q8, .ref q17, .ref q24, .ref q31, .long 0, .long 1, .ref q44, .int 0, .int 0, .ref q53, .int 0, .int 0, .null, .null, .int 0, .null, .int 0, .int 0, .int 0, .int 0, .int 0, .null, .null])), (q8, .inl (cy 0, 915, .inl (fun _ => 0))), (q17, .inl (cy 0, 1830, .inl (fun _ => 0))), (q24, .inl (cy 2, 2, .inl (fun _ => 0))), (q31, .inl (cy 0, 3, .inl (fun _ => 0))), (q44, .inl (cy 0, 127, .inl (fun _ => 0))), (q53, .inl (cy 0, 508, .inl (fun _ => 0)))] := hD
  refine lv_aload_n hx hb dd_X8_init_58 rfl (lv_at hl 0 rfl) ?_
  refine lv_iconst (v := 4) hx hb dd_X8_init_59 (by decide) ?_
  refine zc_newa0 (N := 4) hx hb (hts _ wd_160) hK hP hD hS hA (by decide) (by decide) (by decide) (Nat.le_of_ble_eq_true rfl) (Nat.le_of_ble_eq_true rfl) dd_X8_init_60 (fun q60 H hP hD hS => ?_)
  have hP : va_P D vwCl [(h0, .inr (7, [.ref q8, .ref q17, .ref q24, .ref q31, .long 0, .long 1, .ref q44, .int 0, .int 0, .ref q53, .int 0, .int 0, .null, .null, .int 0, .null, .int 0, .int 0, .int 0, .int 0, .int 0, .null, .null])), (q8, .inl (cy 0, 915, .inl (fun _ => 0))), (q17, .inl (cy 0, 1830, .inl (fun _ => 0))), (q24, .inl (cy 2, 2, .inl (fun _ => 0))), (q31, .inl (cy 0, 3, .inl (fun _ => 0))), (q44, .inl (cy 0, 127, .inl (fun _ => 0))), (q53, .inl (cy 0, 508, .inl (fun _ => 0))), (q60, .inl (cy 0, 4, .inl (fun _ => 0)))] H := hP
  have hD : va_D A [(h0, .inr (7, [.ref q8, .ref q17, .ref q24, .ref q31, .long 0, .long 1, .ref q44, .int 0, .int 0, .ref q53, .int 0, .int 0, .null, .null, .int 0, .null, .int 0, .int 0, .int 0, .int 0, .int 0, .null, .null])), (q8, .inl (cy 0, 915, .inl (fun _ => 0))), (q17, .inl (cy 0, 1830, .inl (fun _ => 0))), (q24, .inl (cy 2, 2, .inl (fun _ => 0))), (q31, .inl (cy 0, 3, .inl (fun _ => 0))), (q44, .inl (cy 0, 127, .inl (fun _ => 0))), (q53, .inl (cy 0, 508, .inl (fun _ => 0))), (q60, .inl (cy 0, 4, .inl (fun _ => 0)))] := hD
  refine W.widen (k := 7) (n := 3389) (Nat.le_of_ble_eq_true rfl) (Nat.le_of_ble_eq_true rfl) ?_
  refine va_putF (D := D) (ci := 7) (v := .ref q60) (ty := (.array .int)) (C := RX8) (T := TX8) (N := 23) hx hb hts zi_X8 tyX8 tyX8_ok nmX8 hown hK hP hD hS 0 rfl rfl 12 (by decide) (hts _ wd_852) (fun _ h9 => h9) rfl hin rfl (by decide +kernel) rfl rfl (Nat.le_of_ble_eq_true rfl) dd_X8_init_62 (fun H locs hP hD hS => ?_)
  have hP : va_P D vwCl [(h0, .inr (7, [.ref q8, .ref q17, .ref q24, .ref q31, .long 0, .long 1, .ref q44, .int 0, .int 0, .ref q53, .int 0, .int 0, .ref q60, .null, .int 0, .null, .int 0, .int 0, .int 0, .int 0, .int 0, .null, .null])), (q8, .inl (cy 0, 915, .inl (fun _ => 0))), (q17, .inl (cy 0, 1830, .inl (fun _ => 0))), (q24, .inl (cy 2, 2, .inl (fun _ => 0))), (q31, .inl (cy 0, 3, .inl (fun _ => 0))), (q44, .inl (cy 0, 127, .inl (fun _ => 0))), (q53, .inl (cy 0, 508, .inl (fun _ => 0))), (q60, .inl (cy 0, 4, .inl (fun _ => 0)))] H := hP
  have hD : va_D A [(h0, .inr (7, [.ref q8, .ref q17, .ref q24, .ref q31, .long 0, .long 1, .ref q44, .int 0, .int 0, .ref q53, .int 0, .int 0, .ref q60, .null, .int 0, .null, .int 0, .int 0, .int 0, .int 0, .int 0, .null, .null])), (q8, .inl (cy 0, 915, .inl (fun _ => 0))), (q17, .inl (cy 0, 1830, .inl (fun _ => 0))), (q24, .inl (cy 2, 2, .inl (fun _ => 0))), (q31, .inl (cy 0, 3, .inl (fun _ => 0))), (q44, .inl (cy 0, 127, .inl (fun _ => 0))), (q53, .inl (cy 0, 508, .inl (fun _ => 0))), (q60, .inl (cy 0, 4, .inl (fun _ => 0)))] := hD
  refine lv_aload_n hx hb dd_X8_init_65 rfl (lv_at hl 0 rfl) ?_
  refine lv_iconst (v := 4) hx hb dd_X8_init_66 (by decide) ?_
  refine zc_newa0 (N := 4) hx hb (hts _ wd_160) hK hP hD hS hA (by decide) (by decide) (by decide) (Nat.le_of_ble_eq_true rfl) (Nat.le_of_ble_eq_true rfl) dd_X8_init_67 (fun q67 H hP hD hS => ?_)
  have hP : va_P D vwCl [(h0, .inr (7, [.ref q8, .ref q17, .ref q24, .ref q31, .long 0, .long 1, .ref q44, .int 0, .int 0, .ref q53, .int 0, .int 0, .ref q60, .null, .int 0, .null, .int 0, .int 0, .int 0, .int 0, .int 0, .null, .null])), (q8, .inl (cy 0, 915, .inl (fun _ => 0))), (q17, .inl (cy 0, 1830, .inl (fun _ => 0))), (q24, .inl (cy 2, 2, .inl (fun _ => 0))), (q31, .inl (cy 0, 3, .inl (fun _ => 0))), (q44, .inl (cy 0, 127, .inl (fun _ => 0))), (q53, .inl (cy 0, 508, .inl (fun _ => 0))), (q60, .inl (cy 0, 4, .inl (fun _ => 0))), (q67, .inl (cy 0, 4, .inl (fun _ => 0)))] H := hP
  have hD : va_D A [(h0, .inr (7, [.ref q8, .ref q17, .ref q24, .ref q31, .long 0, .long 1, .ref q44, .int 0, .int 0, .ref q53, .int 0, .int 0, .ref q60, .null, .int 0, .null, .int 0, .int 0, .int 0, .int 0, .int 0, .null, .null])), (q8, .inl (cy 0, 915, .inl (fun _ => 0))), (q17, .inl (cy 0, 1830, .inl (fun _ => 0))), (q24, .inl (cy 2, 2, .inl (fun _ => 0))), (q31, .inl (cy 0, 3, .inl (fun _ => 0))), (q44, .inl (cy 0, 127, .inl (fun _ => 0))), (q53, .inl (cy 0, 508, .inl (fun _ => 0))), (q60, .inl (cy 0, 4, .inl (fun _ => 0))), (q67, .inl (cy 0, 4, .inl (fun _ => 0)))] := hD
  refine W.widen (k := 8) (n := 3393) (Nat.le_of_ble_eq_true rfl) (Nat.le_of_ble_eq_true rfl) ?_
  refine va_putF (D := D) (ci := 7) (v := .ref q67) (ty := (.array .int)) (C := RX8) (T := TX8) (N := 23) hx hb hts zi_X8 tyX8 tyX8_ok nmX8 hown hK hP hD hS 0 rfl rfl 13 (by decide) (hts _ wd_853) (fun _ h9 => h9) rfl hin rfl (by decide +kernel) rfl rfl (Nat.le_of_ble_eq_true rfl) dd_X8_init_69 (fun H locs hP hD hS => ?_)
  have hP : va_P D vwCl [(h0, .inr (7, [.ref q8, .ref q17, .ref q24, .ref q31, .long 0, .long 1, .ref q44, .int 0, .int 0, .ref q53, .int 0, .int 0, .ref q60, .ref q67, .int 0, .null, .int 0, .int 0, .int 0, .int 0, .int 0, .null, .null])), (q8, .inl (cy 0, 915, .inl (fun _ => 0))), (q17, .inl (cy 0, 1830, .inl (fun _ => 0))), (q24, .inl (cy 2, 2, .inl (fun _ => 0))), (q31, .inl (cy 0, 3, .inl (fun _ => 0))), (q44, .inl (cy 0, 127, .inl (fun _ => 0))), (q53, .inl (cy 0, 508, .inl (fun _ => 0))), (q60, .inl (cy 0, 4, .inl (fun _ => 0))), (q67, .inl (cy 0, 4, .inl (fun _ => 0)))] H := hP
  have hD : va_D A [(h0, .inr (7, [.ref q8, .ref q17, .ref q24, .ref q31, .long 0, .long 1, .ref q44, .int 0, .int 0, .ref q53, .int 0, .int 0, .ref q60, .ref q67, .int 0, .null, .int 0, .int 0, .int 0, .int 0, .int 0, .null, .null])), (q8, .inl (cy 0, 915, .inl (fun _ => 0))), (q17, .inl (cy 0, 1830, .inl (fun _ => 0))), (q24, .inl (cy 2, 2, .inl (fun _ => 0))), (q31, .inl (cy 0, 3, .inl (fun _ => 0))), (q44, .inl (cy 0, 127, .inl (fun _ => 0))), (q53, .inl (cy 0, 508, .inl (fun _ => 0))), (q60, .inl (cy 0, 4, .inl (fun _ => 0))), (q67, .inl (cy 0, 4, .inl (fun _ => 0)))] := hD
  refine lv_aload_n hx hb dd_X8_init_72 rfl (lv_at hl 0 rfl) ?_
  refine lv_sipush (v := 150) hx hb dd_X8_init_73 (by decide) ?_
  refine zc_newa0 (N := 150) hx hb (hts _ wd_160) hK hP hD hS hA (by decide) (by decide) (by decide) (Nat.le_of_ble_eq_true rfl) (Nat.le_of_ble_eq_true rfl) dd_X8_init_76 (fun q76 H hP hD hS => ?_)
  have hP : va_P D vwCl [(h0, .inr (7, [.ref q8, .ref q17, .ref q24, .ref q31, .long 0, .long 1, .ref q44, .int 0, .int 0, .ref q53, .int 0, .int 0, .ref q60, .ref q67, .int 0, .null, .int 0, .int 0, .int 0, .int 0, .int 0, .null, .null])), (q8, .inl (cy 0, 915, .inl (fun _ => 0))), (q17, .inl (cy 0, 1830, .inl (fun _ => 0))), (q24, .inl (cy 2, 2, .inl (fun _ => 0))), (q31, .inl (cy 0, 3, .inl (fun _ => 0))), (q44, .inl (cy 0, 127, .inl (fun _ => 0))), (q53, .inl (cy 0, 508, .inl (fun _ => 0))), (q60, .inl (cy 0, 4, .inl (fun _ => 0))), (q67, .inl (cy 0, 4, .inl (fun _ => 0))), (q76, .inl (cy 0, 150, .inl (fun _ => 0)))] H := hP
  have hD : va_D A [(h0, .inr (7, [.ref q8, .ref q17, .ref q24, .ref q31, .long 0, .long 1, .ref q44, .int 0, .int 0, .ref q53, .int 0, .int 0, .ref q60, .ref q67, .int 0, .null, .int 0, .int 0, .int 0, .int 0, .int 0, .null, .null])), (q8, .inl (cy 0, 915, .inl (fun _ => 0))), (q17, .inl (cy 0, 1830, .inl (fun _ => 0))), (q24, .inl (cy 2, 2, .inl (fun _ => 0))), (q31, .inl (cy 0, 3, .inl (fun _ => 0))), (q44, .inl (cy 0, 127, .inl (fun _ => 0))), (q53, .inl (cy 0, 508, .inl (fun _ => 0))), (q60, .inl (cy 0, 4, .inl (fun _ => 0))), (q67, .inl (cy 0, 4, .inl (fun _ => 0))), (q76, .inl (cy 0, 150, .inl (fun _ => 0)))] := hD
  refine W.widen (k := 9) (n := 3543) (Nat.le_of_ble_eq_true rfl) (Nat.le_of_ble_eq_true rfl) ?_
  refine va_putF (D := D) (ci := 7) (v := .ref q76) (ty := (.array .int)) (C := RX8) (T := TX8) (N := 23) hx hb hts zi_X8 tyX8 tyX8_ok nmX8 hown hK hP hD hS 0 rfl rfl 15 (by decide) (hts _ wd_855) (fun _ h9 => h9) rfl hin rfl (by decide +kernel) rfl rfl (Nat.le_of_ble_eq_true rfl) dd_X8_init_78 (fun H locs hP hD hS => ?_)
  have hP : va_P D vwCl [(h0, .inr (7, [.ref q8, .ref q17, .ref q24, .ref q31, .long 0, .long 1, .ref q44, .int 0, .int 0, .ref q53, .int 0, .int 0, .ref q60, .ref q67, .int 0, .ref q76, .int 0, .int 0, .int 0, .int 0, .int 0, .null, .null])), (q8, .inl (cy 0, 915, .inl (fun _ => 0))), (q17, .inl (cy 0, 1830, .inl (fun _ => 0))), (q24, .inl (cy 2, 2, .inl (fun _ => 0))), (q31, .inl (cy 0, 3, .inl (fun _ => 0))), (q44, .inl (cy 0, 127, .inl (fun _ => 0))), (q53, .inl (cy 0, 508, .inl (fun _ => 0))), (q60, .inl (cy 0, 4, .inl (fun _ => 0))), (q67, .inl (cy 0, 4, .inl (fun _ => 0))), (q76, .inl (cy 0, 150, .inl (fun _ => 0)))] H := hP
  have hD : va_D A [(h0, .inr (7, [.ref q8, .ref q17, .ref q24, .ref q31, .long 0, .long 1, .ref q44, .int 0, .int 0, .ref q53, .int 0, .int 0, .ref q60, .ref q67, .int 0, .ref q76, .int 0, .int 0, .int 0, .int 0, .int 0, .null, .null])), (q8, .inl (cy 0, 915, .inl (fun _ => 0))), (q17, .inl (cy 0, 1830, .inl (fun _ => 0))), (q24, .inl (cy 2, 2, .inl (fun _ => 0))), (q31, .inl (cy 0, 3, .inl (fun _ => 0))), (q44, .inl (cy 0, 127, .inl (fun _ => 0))), (q53, .inl (cy 0, 508, .inl (fun _ => 0))), (q60, .inl (cy 0, 4, .inl (fun _ => 0))), (q67, .inl (cy 0, 4, .inl (fun _ => 0))), (q76, .inl (cy 0, 150, .inl (fun _ => 0)))] := hD
  refine lv_aload_n hx hb dd_X8_init_81 rfl (lv_at hl 0 rfl) ?_
  refine lv_sipush (v := 153) hx hb dd_X8_init_82 (by decide) ?_
  refine zc_newa0 (N := 153) hx hb (hts _ wd_160) hK hP hD hS hA (by decide) (by decide) (by decide) (Nat.le_of_ble_eq_true rfl) (Nat.le_of_ble_eq_true rfl) dd_X8_init_85 (fun q85 H hP hD hS => ?_)
  have hP : va_P D vwCl [(h0, .inr (7, [.ref q8, .ref q17, .ref q24, .ref q31, .long 0, .long 1, .ref q44, .int 0, .int 0, .ref q53, .int 0, .int 0, .ref q60, .ref q67, .int 0, .ref q76, .int 0, .int 0, .int 0, .int 0, .int 0, .null, .null])), (q8, .inl (cy 0, 915, .inl (fun _ => 0))), (q17, .inl (cy 0, 1830, .inl (fun _ => 0))), (q24, .inl (cy 2, 2, .inl (fun _ => 0))), (q31, .inl (cy 0, 3, .inl (fun _ => 0))), (q44, .inl (cy 0, 127, .inl (fun _ => 0))), (q53, .inl (cy 0, 508, .inl (fun _ => 0))), (q60, .inl (cy 0, 4, .inl (fun _ => 0))), (q67, .inl (cy 0, 4, .inl (fun _ => 0))), (q76, .inl (cy 0, 150, .inl (fun _ => 0))), (q85, .inl (cy 0, 153, .inl (fun _ => 0)))] H := hP
  have hD : va_D A [(h0, .inr (7, [.ref q8, .ref q17, .ref q24, .ref q31, .long 0, .long 1, .ref q44, .int 0, .int 0, .ref q53, .int 0, .int 0, .ref q60, .ref q67, .int 0, .ref q76, .int 0, .int 0, .int 0, .int 0, .int 0, .null, .null])), (q8, .inl (cy 0, 915, .inl (fun _ => 0))), (q17, .inl (cy 0, 1830, .inl (fun _ => 0))), (q24, .inl (cy 2, 2, .inl (fun _ => 0))), (q31, .inl (cy 0, 3, .inl (fun _ => 0))), (q44, .inl (cy 0, 127, .inl (fun _ => 0))), (q53, .inl (cy 0, 508, .inl (fun _ => 0))), (q60, .inl (cy 0, 4, .inl (fun _ => 0))), (q67, .inl (cy 0, 4, .inl (fun _ => 0))), (q76, .inl (cy 0, 150, .inl (fun _ => 0))), (q85, .inl (cy 0, 153, .inl (fun _ => 0)))] := hD
  refine W.widen (k := 10) (n := 3696) (Nat.le_of_ble_eq_true rfl) (Nat.le_of_ble_eq_true rfl) ?_
  refine va_putF (D := D) (ci := 7) (v := .ref q85) (ty := (.array .int)) (C := RX8) (T := TX8) (N := 23) hx hb hts zi_X8 tyX8 tyX8_ok nmX8 hown hK hP hD hS 0 rfl rfl 21 (by decide) (hts _ wd_861) (fun _ h9 => h9) rfl hin rfl (by decide +kernel) rfl rfl (Nat.le_of_ble_eq_true rfl) dd_X8_init_87 (fun H locs hP hD hS => ?_)
  have hP : va_P D vwCl [(h0, .inr (7, [.ref q8, .ref q17, .ref q24, .ref q31, .long 0, .long 1, .ref q44, .int 0, .int 0, .ref q53, .int 0, .int 0, .ref q60, .ref q67, .int 0, .ref q76, .int 0, .int 0, .int 0, .int 0, .int 0, .ref q85, .null])), (q8, .inl (cy 0, 915, .inl (fun _ => 0))), (q17, .inl (cy 0, 1830, .inl (fun _ => 0))), (q24, .inl (cy 2, 2, .inl (fun _ => 0))), (q31, .inl (cy 0, 3, .inl (fun _ => 0))), (q44, .inl (cy 0, 127, .inl (fun _ => 0))), (q53, .inl (cy 0, 508, .inl (fun _ => 0))), (q60, .inl (cy 0, 4, .inl (fun _ => 0))), (q67, .inl (cy 0, 4, .inl (fun _ => 0))), (q76, .inl (cy 0, 150, .inl (fun _ => 0))), (q85, .inl (cy 0, 153, .inl (fun _ => 0)))] H := hP
  have hD : va_D A [(h0, .inr (7, [.ref q8, .ref q17, .ref q24, .ref q31, .long 0, .long 1, .ref q44, .int 0, .int 0, .ref q53, .int 0, .int 0, .ref q60, .ref q67, .int 0, .ref q76, .int 0, .int 0, .int 0, .int 0, .int 0, .ref q85, .null])), (q8, .inl (cy 0, 915, .inl (fun _ => 0))), (q17, .inl (cy 0, 1830, .inl (fun _ => 0))), (q24, .inl (cy 2, 2, .inl (fun _ => 0))), (q31, .inl (cy 0, 3, .inl (fun _ => 0))), (q44, .inl (cy 0, 127, .inl (fun _ => 0))), (q53, .inl (cy 0, 508, .inl (fun _ => 0))), (q60, .inl (cy 0, 4, .inl (fun _ => 0))), (q67, .inl (cy 0, 4, .inl (fun _ => 0))), (q76, .inl (cy 0, 150, .inl (fun _ => 0))), (q85, .inl (cy 0, 153, .inl (fun _ => 0)))] := hD
  refine lv_aload_n hx hb dd_X8_init_90 rfl (lv_at hl 0 rfl) ?_
  refine lv_iconst (v := 4) hx hb dd_X8_init_91 (by decide) ?_
  refine zc_newa0 (N := 4) hx hb (hts _ wd_160) hK hP hD hS hA (by decide) (by decide) (by decide) (Nat.le_of_ble_eq_true rfl) (Nat.le_of_ble_eq_true rfl) dd_X8_init_92 (fun q92 H hP hD hS => ?_)
  have hP : va_P D vwCl [(h0, .inr (7, [.ref q8, .ref q17, .ref q24, .ref q31, .long 0, .long 1, .ref q44, .int 0, .int 0, .ref q53, .int 0, .int 0, .ref q60, .ref q67, .int 0, .ref q76, .int 0, .int 0, .int 0, .int 0, .int 0, .ref q85, .null])), (q8, .inl (cy 0, 915, .inl (fun _ => 0))), (q17, .inl (cy 0, 1830, .inl (fun _ => 0))), (q24, .inl (cy 2, 2, .inl (fun _ => 0))), (q31, .inl (cy 0, 3, .inl (fun _ => 0))), (q44, .inl (cy 0, 127, .inl (fun _ => 0))), (q53, .inl (cy 0, 508, .inl (fun _ => 0))), (q60, .inl (cy 0, 4, .inl (fun _ => 0))), (q67, .inl (cy 0, 4, .inl (fun _ => 0))), (q76, .inl (cy 0, 150, .inl (fun _ => 0))), (q85, .inl (cy 0, 153, .inl (fun _ => 0))), (q92, .inl (cy 0, 4, .inl (fun _ => 0)))] H := hP
  have hD : va_D A [(h0, .inr (7, [.ref q8, .ref q17, .ref q24, .ref q31, .long 0, .long 1, .ref q44, .int 0, .int 0, .ref q53, .int 0, .int 0, .ref q60, .ref q67, .int 0, .ref q76, .int 0, .int 0, .int 0, .int 0, .int 0, .ref q85, .null])), (q8, .inl (cy 0, 915, .inl (fun _ => 0))), (q17, .inl (cy 0, 1830, .inl (fun _ => 0))), (q24, .inl (cy 2, 2, .inl (fun _ => 0))), (q31, .inl (cy 0, 3, .inl (fun _ => 0))), (q44, .inl (cy 0, 127, .inl (fun _ => 0))), (q53, .inl (cy 0, 508, .inl (fun _ => 0))), (q60, .inl (cy 0, 4, .inl (fun _ => 0))), (q67, .inl (cy 0, 4, .inl (fun _ => 0))), (q76, .inl (cy 0, 150, .inl (fun _ => 0))), (q85, .inl (cy 0, 153, .inl (fun _ => 0))), (q92, .inl (cy 0, 4, .inl (fun _ => 0)))] := hD
  refine W.widen (k := 11) (n := 3700) (Nat.le_of_ble_eq_true rfl) (Nat.le_of_ble_eq_true rfl) ?_
  refine va_putF (D := D) (ci := 7) (v := .ref q92) (ty := (.array .int)) (C := RX8) (T := TX8) (N := 23) hx hb hts zi_X8 tyX8 tyX8_ok nmX8 hown hK hP hD hS 0 rfl rfl 22 (by decide) (hts _ wd_862) (fun _ h9 => h9) rfl hin rfl (by decide +kernel) rfl rfl (Nat.le_of_ble_eq_true rfl) dd_X8_init_94 (fun H locs hP hD hS => ?_)
  have hP : va_P D vwCl [(h0, .inr (7, [.ref q8, .ref q17, .ref q24, .ref q31, .long 0, .long 1, .ref q44, .int 0, .int 0, .ref q53, .int 0, .int 0, .ref q60, .ref q67, .int 0, .ref q76, .int 0, .int 0, .int 0, .int 0, .int 0, .ref q85, .ref q92])), (q8, .inl (cy 0, 915, .inl (fun _ => 0))), (q17, .inl (cy 0, 1830, .inl (fun _ => 0))), (q24, .inl (cy 2, 2, .inl (fun _ => 0))), (q31, .inl (cy 0, 3, .inl (fun _ => 0))), (q44, .inl (cy 0, 127, .inl (fun _ => 0))), (q53, .inl (cy 0, 508, .inl (fun _ => 0))), (q60, .inl (cy 0, 4, .inl (fun _ => 0))), (q67, .inl (cy 0, 4, .inl (fun _ => 0))), (q76, .inl (cy 0, 150, .inl (fun _ => 0))), (q85, .inl (cy 0, 153, .inl (fun _ => 0))), (q92, .inl (cy 0, 4, .inl (fun _ => 0)))] H := hP
  have hD : va_D A [(h0, .inr (7, [.ref q8, .ref q17, .ref q24, .ref q31, .long 0, .long 1, .ref q44, .int 0, .int 0, .ref q53, .int 0, .int 0, .ref q60, .ref q67, .int 0, .ref q76, .int 0, .int 0, .int 0, .int 0, .int 0, .ref q85, .ref q92])), (q8, .inl (cy 0, 915, .inl (fun _ => 0))), (q17, .inl (cy 0, 1830, .inl (fun _ => 0))), (q24, .inl (cy 2, 2, .inl (fun _ => 0))), (q31, .inl (cy 0, 3, .inl (fun _ => 0))), (q44, .inl (cy 0, 127, .inl (fun _ => 0))), (q53, .inl (cy 0, 508, .inl (fun _ => 0))), (q60, .inl (cy 0, 4, .inl (fun _ => 0))), (q67, .inl (cy 0, 4, .inl (fun _ => 0))), (q76, .inl (cy 0, 150, .inl (fun _ => 0))), (q85, .inl (cy 0, 153, .inl (fun _ => 0))), (q92, .inl (cy 0, 4, .inl (fun _ => 0)))] := hD
  have hPz : va_P D vwCl (zwl cy (ad9 [h0, q8, q17, q24, q31, q44, q53, q60, q67, q76, q85, q92] adS) bl9 M9) H := by rw [zwl9]; exact hP
  have hDz : ∀ M', va_D A (zwl cy (ad9 [h0, q8, q17, q24, q31, q44, q53, q60, q67, q76, q85, q92] adS) bl9 M') := fun M' => zwl_D M' (M := M9) (by rw [zwl9]; exact hD)
  have hEz : zE (ad9 [h0, q8, q17, q24, q31, q44, q53, q60, q67, q76, q85, q92] adS) A s := zE_cg (fun t o h => ad9_ge t o h) hE
  refine lv_aload_n hx hb dd_X8_init_97 rfl (lv_at hl 0 rfl) ?_
  refine va_get (D := D) (ci := 7) (v := .ref q8) (C := RX8) (T := TX8) (N := 23) hx hb hts zi_X8 hown hK hP 0 rfl rfl 0 (by decide) (hts _ wd_840) (fun _ h9 => h9) rfl dd_X8_init_98 ?_
  have C0 : zCtx p l e (headSpec (zws yX8_init cX8_init 1 none) rm_X8).room s m ([Value.ref h0] : List Value).toArray below meth c D cy A (ad9 [h0, q8, q17, q24, q31, q44, q53, q60, q67, q76, q85, q92] adS) bl9 1 11 3700 (MQ below (va_Qv (fun _ : Unit => True) (fun _ t => ∃ (L : List Nat) (M : zM), L.getD 0 0 = h0 ∧ va_P D vwCl (zwl cy (ad9 L adS) bl9 M) t.heap ∧ va_D A (zwl cy (ad9 L adS) bl9 M) ∧ RpM M st0) A) ([Value.ref h0] : List Value).toArray s 11 3700 A) RX8 cX8_init (1 + 1) := ⟨hx, hb, hml, hown, hts, hK, hDz, hA, hN, hEz, ⟨Nat.le_of_ble_eq_true rfl, Nat.le_of_ble_eq_true rfl⟩, Nat.le_of_ble_eq_true rfl, Nat.le_of_ble_eq_true rfl⟩
  have hcall := ok_callS (n := 1) C0 (ms_X8_begin 1 (Nat.le_refl 1)) (by decide) wd_839 wd_837 wd_838 wd_107 ⟨by decide +kernel, by decide +kernel, by decide +kernel⟩ dd_X8_init_101
  refine hcall _ (fun _ _ _ _ h => h) [some (zR 9 0)] [zR 9 1] M9 (ztc rfl (sp_beg9 _ (fun f h0' h1' M' e' => ?_))) H locs ls rfl hPz hS hl
  intro H locs arr hn hP hS hl
  exact W.vret hx hb hr (fun t ht hW => ⟨⟨(), rfl, trivial, [h0, q8, q17, q24, q31, q44, q53, q60, q67, q76, q85, q92], M', rfl, by rw [ht]; exact hP, hDz M', RpM_0 h0' e'⟩, hS.F ht⟩) hS.2.2 dd_X8_init_104 hlocks
