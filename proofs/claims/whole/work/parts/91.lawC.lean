theorem dd_L_law_517 : decode cL_law 517 = .ok (.aload_n 1, 1) := by decide +kernel
theorem dd_L_law_518 : decode cL_law 518 = .ok (.aload_n 0, 1) := by decide +kernel
theorem dd_L_law_519 : decode cL_law 519 = .ok (.iload_n 3, 1) := by decide +kernel
theorem dd_L_law_520 : decode cL_law 520 = .ok (.iconst 1, 1) := by decide +kernel
theorem dd_L_law_521 : decode cL_law 521 = .ok (.iadd, 1) := by decide +kernel
theorem dd_L_law_522 : decode cL_law 522 = .ok (.iaload, 1) := by decide +kernel
theorem dd_L_law_523 : decode cL_law 523 = .ok (.invokevirtual 70, 3) := by decide +kernel
theorem dd_L_law_526 : decode cL_law 526 = .ok (.aload_n 2, 1) := by decide +kernel
theorem dd_L_law_527 : decode cL_law 527 = .ok (.aload_n 0, 1) := by decide +kernel
theorem dd_L_law_528 : decode cL_law 528 = .ok (.iload_n 3, 1) := by decide +kernel
theorem dd_L_law_529 : decode cL_law 529 = .ok (.iconst 1, 1) := by decide +kernel
theorem dd_L_law_530 : decode cL_law 530 = .ok (.iadd, 1) := by decide +kernel
theorem dd_L_law_531 : decode cL_law 531 = .ok (.iaload, 1) := by decide +kernel
theorem dd_L_law_532 : decode cL_law 532 = .ok (.invokevirtual 73, 3) := by decide +kernel
theorem dd_L_law_535 : decode cL_law 535 = .ok (.if_icmp .eq 535, 3) := by decide +kernel
theorem dd_L_law_538 : decode cL_law 538 = .ok (.iconst 0, 1) := by decide +kernel
theorem dd_L_law_539 : decode cL_law 539 = .ok (.ireturn, 1) := by decide +kernel
def tb_L13 (L : Nat) (xs : Nat → Int32) (kd : Nat → Nat) : zTab := [(517, zt_aload 1 518), (518, zt_aload 0 519), (519, zt_iload 3 520), (520, zt_const (zI 1) 521), (521, zt_bin (fun x y => x + y) 522), (522, zt_sld L xs 523), (523, zt_call kd sp_X7_quarrel 2 526), (526, zt_aload 2 527), (527, zt_aload 0 528), (528, zt_iload 3 529), (529, zt_const (zI 1) 530), (530, zt_bin (fun x y => x + y) 531), (531, zt_sld L xs 532), (532, zt_call kd sp_X8_quarrel 2 535), (535, zt_icmp (fun x y => x = y) (fun x y => ¬ x = y) 1070 538), (538, zt_const (zI 0) 539), (539, (fun _ _ _ _ => False))]
def cu_L13 : zCut := [(1070, [])]
set_option maxRecDepth 20000 in
theorem tk_L13 {p : Program} {l : Launch} {e : Env} {R : Room} {s : State} {m : MethodId} {args : Array Value} {below : List Frame} {meth : Method} {c : Code} {D : va_G} {cy : Nat → ClassId} {A : Nat → Prop} {ad : Nat × Nat → Nat} {bl : zBl} {ce so : Nat} {Qm : State → Prop} {b L : Nat} {xs : Nat → Int32} (C0 : zCtx p l e R s m args below meth c D cy A ad bl 4 ce so Qm RL cL_law (60 + 1)) (hX : va_X b L xs s s.heap) (hbl : b < s.heap.size) (hbA : ¬ A b) (hb31 : ∀ o, ad (31, o) = b) : ∀ q ∈ tb_L13 L xs (zkd bl), zOk p l e R s m args below meth c D cy A ad bl 4 ce so Qm q.1 q.2 := by
  obtain ⟨hx, hb, hml, hown, hts, hK, hD, hA0, hN, hE, ⟨hR1, hR2⟩, hc1, hc2⟩ := id C0
  unfold tb_L13
  refine List.forall_mem_cons.mpr ⟨ok_aload_n hx hb rfl dd_L_law_517, ?_⟩
  refine List.forall_mem_cons.mpr ⟨ok_aload_n hx hb rfl dd_L_law_518, ?_⟩
  refine List.forall_mem_cons.mpr ⟨ok_iload_n hx hb rfl dd_L_law_519, ?_⟩
  refine List.forall_mem_cons.mpr ⟨ok_iconst hx hb dd_L_law_520 (by decide), ?_⟩
  refine List.forall_mem_cons.mpr ⟨ok_iadd hx hb dd_L_law_521, ?_⟩
  refine List.forall_mem_cons.mpr ⟨ok_sld hx hb hX hbl hbA hb31 dd_L_law_522, ?_⟩
  refine List.forall_mem_cons.mpr ⟨ok_callV (n := 1) zc_X7 rv_X7_quarrel C0 (ms_X7_quarrel 60 (by decide)) (by decide) wd_598 wd_595 wd_596 wd_597 wd_100 ⟨rfl, by decide +kernel, by decide +kernel, by decide +kernel⟩ dd_L_law_523, ?_⟩
  refine List.forall_mem_cons.mpr ⟨ok_aload_n hx hb rfl dd_L_law_526, ?_⟩
  refine List.forall_mem_cons.mpr ⟨ok_aload_n hx hb rfl dd_L_law_527, ?_⟩
  refine List.forall_mem_cons.mpr ⟨ok_iload_n hx hb rfl dd_L_law_528, ?_⟩
  refine List.forall_mem_cons.mpr ⟨ok_iconst hx hb dd_L_law_529 (by decide), ?_⟩
  refine List.forall_mem_cons.mpr ⟨ok_iadd hx hb dd_L_law_530, ?_⟩
  refine List.forall_mem_cons.mpr ⟨ok_sld hx hb hX hbl hbA hb31 dd_L_law_531, ?_⟩
  refine List.forall_mem_cons.mpr ⟨ok_callV (n := 1) zc_X8 rv_X8_quarrel C0 (ms_X8_quarrel 60 (by decide)) (by decide) wd_1036 wd_1033 wd_1034 wd_1035 wd_107 ⟨rfl, by decide +kernel, by decide +kernel, by decide +kernel⟩ dd_L_law_532, ?_⟩
  refine List.forall_mem_cons.mpr ⟨ok_icmp_eq hx hb dd_L_law_535 (by decide), ?_⟩
  refine List.forall_mem_cons.mpr ⟨ok_iconst hx hb dd_L_law_538 (by decide), ?_⟩
  refine List.forall_mem_cons.mpr ⟨ok_dead, ?_⟩
  exact fun _ h => absurd h List.not_mem_nil
set_option maxRecDepth 100000 in
theorem vc_L13_517 {L : Nat} {xs : Nat → Int32} {kd : Nat → Nat} {X : zX} (hX : ∀ (n pc : Nat) (ls : zLS) (st : List zV) (M : zM), zrun (tb_L13 L xs kd) cu_L13 n X pc ls st M → X pc ls st M) {i : Int32} {M : zM} (hk0 : kd 9 = 8) (hk1 : kd 0 = 1) (h : (vp_in (i + (1 : Int32)) L) ∧ (KdX kd) ∧ ∃ s1 : St, (RpX kd M s1) ∧ ∀ v1 : Int32, (er_quarrel s1 (xs (i + (1 : Int32)).toNatClampNeg).toInt v1.toInt) → ∀ M1 : zM, (RpX kd M1 (es_quarrel s1 (xs (i + (1 : Int32)).toNatClampNeg).toInt)) → (fr9 M M1) → (vp_in (i + (1 : Int32)) L) ∧ ∃ s2 : St, (RpM M1 s2) ∧ ∀ v2 : Int32, (er_quarrel s2 (xs (i + (1 : Int32)).toNatClampNeg).toInt v2.toInt) → ∀ M2 : zM, (RpM M2 (es_quarrel s2 (xs (i + (1 : Int32)).toNatClampNeg).toInt)) → (fr0 M1 M2) → ((v1 = v2) → X 1070 [some (zR 31 0), some (zR 0 0), some (zR 9 0), some (zI (i))] [] M2) ∧ ((¬ v1 = v2) → False)) : X 517 [some (zR 31 0), some (zR 0 0), some (zR 9 0), some (zI (i))] [] M := hX 18 517 _ [] M (show (31 = 31) ∧ (vp_in (i + (1 : Int32)) L) ∧ (kd 0 = 1) ∧ (KdX kd) ∧ ∃ s1 : St, (RpX kd M s1) ∧ ∀ v1 : Int32, (er_quarrel s1 (xs (i + (1 : Int32)).toNatClampNeg).toInt v1.toInt) → ∀ M1 : zM, (RpX kd M1 (es_quarrel s1 (xs (i + (1 : Int32)).toNatClampNeg).toInt)) → (fr9 M M1) → (31 = 31) ∧ (vp_in (i + (1 : Int32)) L) ∧ (kd 9 = 8) ∧ ∃ s2 : St, (RpM M1 s2) ∧ ∀ v2 : Int32, (er_quarrel s2 (xs (i + (1 : Int32)).toNatClampNeg).toInt v2.toInt) → ∀ M2 : zM, (RpM M2 (es_quarrel s2 (xs (i + (1 : Int32)).toNatClampNeg).toInt)) → (fr0 M1 M2) → ((v1 = v2) → X 1070 [some (zR 31 0), some (zR 0 0), some (zR 9 0), some (zI (i))] [] M2) ∧ ((¬ v1 = v2) → False) from ⟨rfl, ⟨h.1, have h := h.2; ⟨hk1, ⟨h.1, have h := h.2; h.elim (fun s1 h => ⟨s1, ⟨h.1, have h := h.2; fun v1 => have h := h v1; fun q => have h := h q; fun M1 => have h := h M1; fun q => have h := h q; fun q => have h := h q; ⟨rfl, ⟨h.1, have h := h.2; ⟨hk0, h.elim (fun s2 h => ⟨s2, ⟨h.1, have h := h.2; fun v2 => have h := h v2; fun q => have h := h q; fun M2 => have h := h M2; fun q => have h := h q; fun q => have h := h q; ⟨fun q => have h := h.1 q; h, fun q => have h := h.2 q; h⟩⟩⟩)⟩⟩⟩⟩⟩)⟩⟩⟩⟩)
theorem dd_L_law_540 : decode cL_law 540 = .ok (.aload_n 1, 1) := by decide +kernel
theorem dd_L_law_541 : decode cL_law 541 = .ok (.aload_n 0, 1) := by decide +kernel
theorem dd_L_law_542 : decode cL_law 542 = .ok (.iload_n 3, 1) := by decide +kernel
theorem dd_L_law_543 : decode cL_law 543 = .ok (.iconst 1, 1) := by decide +kernel
theorem dd_L_law_544 : decode cL_law 544 = .ok (.iadd, 1) := by decide +kernel
theorem dd_L_law_545 : decode cL_law 545 = .ok (.iaload, 1) := by decide +kernel
theorem dd_L_law_546 : decode cL_law 546 = .ok (.aload_n 0, 1) := by decide +kernel
theorem dd_L_law_547 : decode cL_law 547 = .ok (.iload_n 3, 1) := by decide +kernel
theorem dd_L_law_548 : decode cL_law 548 = .ok (.iconst 2, 1) := by decide +kernel
theorem dd_L_law_549 : decode cL_law 549 = .ok (.iadd, 1) := by decide +kernel
theorem dd_L_law_550 : decode cL_law 550 = .ok (.iaload, 1) := by decide +kernel
theorem dd_L_law_551 : decode cL_law 551 = .ok (.invokevirtual 74, 3) := by decide +kernel
theorem dd_L_law_554 : decode cL_law 554 = .ok (.aload_n 2, 1) := by decide +kernel
theorem dd_L_law_555 : decode cL_law 555 = .ok (.aload_n 0, 1) := by decide +kernel
theorem dd_L_law_556 : decode cL_law 556 = .ok (.iload_n 3, 1) := by decide +kernel
theorem dd_L_law_557 : decode cL_law 557 = .ok (.iconst 1, 1) := by decide +kernel
theorem dd_L_law_558 : decode cL_law 558 = .ok (.iadd, 1) := by decide +kernel
theorem dd_L_law_559 : decode cL_law 559 = .ok (.iaload, 1) := by decide +kernel
theorem dd_L_law_560 : decode cL_law 560 = .ok (.aload_n 0, 1) := by decide +kernel
theorem dd_L_law_561 : decode cL_law 561 = .ok (.iload_n 3, 1) := by decide +kernel
theorem dd_L_law_562 : decode cL_law 562 = .ok (.iconst 2, 1) := by decide +kernel
theorem dd_L_law_563 : decode cL_law 563 = .ok (.iadd, 1) := by decide +kernel
theorem dd_L_law_564 : decode cL_law 564 = .ok (.iaload, 1) := by decide +kernel
theorem dd_L_law_565 : decode cL_law 565 = .ok (.invokevirtual 77, 3) := by decide +kernel
theorem dd_L_law_568 : decode cL_law 568 = .ok (.if_icmp .eq 502, 3) := by decide +kernel
theorem dd_L_law_571 : decode cL_law 571 = .ok (.iconst 0, 1) := by decide +kernel
theorem dd_L_law_572 : decode cL_law 572 = .ok (.ireturn, 1) := by decide +kernel
def tb_L14 (L : Nat) (xs : Nat → Int32) (kd : Nat → Nat) : zTab := [(540, zt_aload 1 541), (541, zt_aload 0 542), (542, zt_iload 3 543), (543, zt_const (zI 1) 544), (544, zt_bin (fun x y => x + y) 545), (545, zt_sld L xs 546), (546, zt_aload 0 547), (547, zt_iload 3 548), (548, zt_const (zI 2) 549), (549, zt_bin (fun x y => x + y) 550), (550, zt_sld L xs 551), (551, zt_call kd sp_X7_tear 3 554), (554, zt_aload 2 555), (555, zt_aload 0 556), (556, zt_iload 3 557), (557, zt_const (zI 1) 558), (558, zt_bin (fun x y => x + y) 559), (559, zt_sld L xs 560), (560, zt_aload 0 561), (561, zt_iload 3 562), (562, zt_const (zI 2) 563), (563, zt_bin (fun x y => x + y) 564), (564, zt_sld L xs 565), (565, zt_call kd sp_X8_tear 3 568), (568, zt_icmp (fun x y => x = y) (fun x y => ¬ x = y) 1070 571), (571, zt_const (zI 0) 572), (572, (fun _ _ _ _ => False))]
def cu_L14 : zCut := [(1070, [])]
set_option maxRecDepth 20000 in
theorem tk_L14 {p : Program} {l : Launch} {e : Env} {R : Room} {s : State} {m : MethodId} {args : Array Value} {below : List Frame} {meth : Method} {c : Code} {D : va_G} {cy : Nat → ClassId} {A : Nat → Prop} {ad : Nat × Nat → Nat} {bl : zBl} {ce so : Nat} {Qm : State → Prop} {b L : Nat} {xs : Nat → Int32} (C0 : zCtx p l e R s m args below meth c D cy A ad bl 4 ce so Qm RL cL_law (60 + 1)) (hX : va_X b L xs s s.heap) (hbl : b < s.heap.size) (hbA : ¬ A b) (hb31 : ∀ o, ad (31, o) = b) : ∀ q ∈ tb_L14 L xs (zkd bl), zOk p l e R s m args below meth c D cy A ad bl 4 ce so Qm q.1 q.2 := by
  obtain ⟨hx, hb, hml, hown, hts, hK, hD, hA0, hN, hE, ⟨hR1, hR2⟩, hc1, hc2⟩ := id C0
  unfold tb_L14
  refine List.forall_mem_cons.mpr ⟨ok_aload_n hx hb rfl dd_L_law_540, ?_⟩
  refine List.forall_mem_cons.mpr ⟨ok_aload_n hx hb rfl dd_L_law_541, ?_⟩
  refine List.forall_mem_cons.mpr ⟨ok_iload_n hx hb rfl dd_L_law_542, ?_⟩
  refine List.forall_mem_cons.mpr ⟨ok_iconst hx hb dd_L_law_543 (by decide), ?_⟩
  refine List.forall_mem_cons.mpr ⟨ok_iadd hx hb dd_L_law_544, ?_⟩
  refine List.forall_mem_cons.mpr ⟨ok_sld hx hb hX hbl hbA hb31 dd_L_law_545, ?_⟩
  refine List.forall_mem_cons.mpr ⟨ok_aload_n hx hb rfl dd_L_law_546, ?_⟩
  refine List.forall_mem_cons.mpr ⟨ok_iload_n hx hb rfl dd_L_law_547, ?_⟩
  refine List.forall_mem_cons.mpr ⟨ok_iconst hx hb dd_L_law_548 (by decide), ?_⟩
  refine List.forall_mem_cons.mpr ⟨ok_iadd hx hb dd_L_law_549, ?_⟩
  refine List.forall_mem_cons.mpr ⟨ok_sld hx hb hX hbl hbA hb31 dd_L_law_550, ?_⟩
  refine List.forall_mem_cons.mpr ⟨ok_callV (n := 2) zc_X7 rv_X7_tear C0 (ms_X7_tear 60 (by decide)) (by decide) wd_607 wd_604 wd_605 wd_606 wd_100 ⟨rfl, by decide +kernel, by decide +kernel, by decide +kernel⟩ dd_L_law_551, ?_⟩
  refine List.forall_mem_cons.mpr ⟨ok_aload_n hx hb rfl dd_L_law_554, ?_⟩
  refine List.forall_mem_cons.mpr ⟨ok_aload_n hx hb rfl dd_L_law_555, ?_⟩
  refine List.forall_mem_cons.mpr ⟨ok_iload_n hx hb rfl dd_L_law_556, ?_⟩
  refine List.forall_mem_cons.mpr ⟨ok_iconst hx hb dd_L_law_557 (by decide), ?_⟩
  refine List.forall_mem_cons.mpr ⟨ok_iadd hx hb dd_L_law_558, ?_⟩
  refine List.forall_mem_cons.mpr ⟨ok_sld hx hb hX hbl hbA hb31 dd_L_law_559, ?_⟩
  refine List.forall_mem_cons.mpr ⟨ok_aload_n hx hb rfl dd_L_law_560, ?_⟩
  refine List.forall_mem_cons.mpr ⟨ok_iload_n hx hb rfl dd_L_law_561, ?_⟩
  refine List.forall_mem_cons.mpr ⟨ok_iconst hx hb dd_L_law_562 (by decide), ?_⟩
  refine List.forall_mem_cons.mpr ⟨ok_iadd hx hb dd_L_law_563, ?_⟩
  refine List.forall_mem_cons.mpr ⟨ok_sld hx hb hX hbl hbA hb31 dd_L_law_564, ?_⟩
  refine List.forall_mem_cons.mpr ⟨ok_callV (n := 2) zc_X8 rv_X8_tear C0 (ms_X8_tear 60 (by decide)) (by decide) wd_1040 wd_1037 wd_1038 wd_1039 wd_107 ⟨rfl, by decide +kernel, by decide +kernel, by decide +kernel⟩ dd_L_law_565, ?_⟩
  refine List.forall_mem_cons.mpr ⟨ok_icmp_eq hx hb dd_L_law_568 (by decide), ?_⟩
  refine List.forall_mem_cons.mpr ⟨ok_iconst hx hb dd_L_law_571 (by decide), ?_⟩
  refine List.forall_mem_cons.mpr ⟨ok_dead, ?_⟩
  exact fun _ h => absurd h List.not_mem_nil
set_option maxRecDepth 100000 in
theorem vc_L14_540 {L : Nat} {xs : Nat → Int32} {kd : Nat → Nat} {X : zX} (hX : ∀ (n pc : Nat) (ls : zLS) (st : List zV) (M : zM), zrun (tb_L14 L xs kd) cu_L14 n X pc ls st M → X pc ls st M) {i : Int32} {M : zM} (hk0 : kd 9 = 8) (hk1 : kd 0 = 1) (h : (vp_in (i + (1 : Int32)) L) ∧ (vp_in (i + (2 : Int32)) L) ∧ (KdX kd) ∧ ∃ s1 : St, (RpX kd M s1) ∧ ∀ v1 : Int32, (v1.toInt = (ev_tear s1 (xs (i + (1 : Int32)).toNatClampNeg).toInt (xs (i + (2 : Int32)).toNatClampNeg).toInt).1) → ∀ M1 : zM, (RpX kd M1 (ev_tear s1 (xs (i + (1 : Int32)).toNatClampNeg).toInt (xs (i + (2 : Int32)).toNatClampNeg).toInt).2) → (fr9 M M1) → (vp_in (i + (1 : Int32)) L) ∧ (vp_in (i + (2 : Int32)) L) ∧ ∃ s2 : St, (RpM M1 s2) ∧ ∀ v2 : Int32, (v2.toInt = (ev_tear s2 (xs (i + (1 : Int32)).toNatClampNeg).toInt (xs (i + (2 : Int32)).toNatClampNeg).toInt).1) → ∀ M2 : zM, (RpM M2 (ev_tear s2 (xs (i + (1 : Int32)).toNatClampNeg).toInt (xs (i + (2 : Int32)).toNatClampNeg).toInt).2) → (fr0 M1 M2) → ((v1 = v2) → X 1070 [some (zR 31 0), some (zR 0 0), some (zR 9 0), some (zI (i))] [] M2) ∧ ((¬ v1 = v2) → False)) : X 540 [some (zR 31 0), some (zR 0 0), some (zR 9 0), some (zI (i))] [] M := hX 28 540 _ [] M (show (31 = 31) ∧ (vp_in (i + (1 : Int32)) L) ∧ (31 = 31) ∧ (vp_in (i + (2 : Int32)) L) ∧ (kd 0 = 1) ∧ (KdX kd) ∧ ∃ s1 : St, (RpX kd M s1) ∧ ∀ v1 : Int32, (v1.toInt = (ev_tear s1 (xs (i + (1 : Int32)).toNatClampNeg).toInt (xs (i + (2 : Int32)).toNatClampNeg).toInt).1) → ∀ M1 : zM, (RpX kd M1 (ev_tear s1 (xs (i + (1 : Int32)).toNatClampNeg).toInt (xs (i + (2 : Int32)).toNatClampNeg).toInt).2) → (fr9 M M1) → (31 = 31) ∧ (vp_in (i + (1 : Int32)) L) ∧ (31 = 31) ∧ (vp_in (i + (2 : Int32)) L) ∧ (kd 9 = 8) ∧ ∃ s2 : St, (RpM M1 s2) ∧ ∀ v2 : Int32, (v2.toInt = (ev_tear s2 (xs (i + (1 : Int32)).toNatClampNeg).toInt (xs (i + (2 : Int32)).toNatClampNeg).toInt).1) → ∀ M2 : zM, (RpM M2 (ev_tear s2 (xs (i + (1 : Int32)).toNatClampNeg).toInt (xs (i + (2 : Int32)).toNatClampNeg).toInt).2) → (fr0 M1 M2) → ((v1 = v2) → X 1070 [some (zR 31 0), some (zR 0 0), some (zR 9 0), some (zI (i))] [] M2) ∧ ((¬ v1 = v2) → False) from ⟨rfl, ⟨h.1, have h := h.2; ⟨rfl, ⟨h.1, have h := h.2; ⟨hk1, ⟨h.1, have h := h.2; h.elim (fun s1 h => ⟨s1, ⟨h.1, have h := h.2; fun v1 => have h := h v1; fun q => have h := h q; fun M1 => have h := h M1; fun q => have h := h q; fun q => have h := h q; ⟨rfl, ⟨h.1, have h := h.2; ⟨rfl, ⟨h.1, have h := h.2; ⟨hk0, h.elim (fun s2 h => ⟨s2, ⟨h.1, have h := h.2; fun v2 => have h := h v2; fun q => have h := h q; fun M2 => have h := h M2; fun q => have h := h q; fun q => have h := h q; ⟨fun q => have h := h.1 q; h, fun q => have h := h.2 q; h⟩⟩⟩)⟩⟩⟩⟩⟩⟩⟩)⟩⟩⟩⟩⟩⟩)
theorem dd_L_law_573 : decode cL_law 573 = .ok (.aload_n 1, 1) := by decide +kernel
theorem dd_L_law_574 : decode cL_law 574 = .ok (.aload_n 0, 1) := by decide +kernel
theorem dd_L_law_575 : decode cL_law 575 = .ok (.iload_n 3, 1) := by decide +kernel
theorem dd_L_law_576 : decode cL_law 576 = .ok (.iconst 1, 1) := by decide +kernel
theorem dd_L_law_577 : decode cL_law 577 = .ok (.iadd, 1) := by decide +kernel
theorem dd_L_law_578 : decode cL_law 578 = .ok (.iaload, 1) := by decide +kernel
theorem dd_L_law_579 : decode cL_law 579 = .ok (.aload_n 0, 1) := by decide +kernel
theorem dd_L_law_580 : decode cL_law 580 = .ok (.iload_n 3, 1) := by decide +kernel
theorem dd_L_law_581 : decode cL_law 581 = .ok (.iconst 2, 1) := by decide +kernel
theorem dd_L_law_582 : decode cL_law 582 = .ok (.iadd, 1) := by decide +kernel
theorem dd_L_law_583 : decode cL_law 583 = .ok (.iaload, 1) := by decide +kernel
theorem dd_L_law_584 : decode cL_law 584 = .ok (.aload_n 0, 1) := by decide +kernel
theorem dd_L_law_585 : decode cL_law 585 = .ok (.iload_n 3, 1) := by decide +kernel
theorem dd_L_law_586 : decode cL_law 586 = .ok (.iconst 3, 1) := by decide +kernel
theorem dd_L_law_587 : decode cL_law 587 = .ok (.iadd, 1) := by decide +kernel
theorem dd_L_law_588 : decode cL_law 588 = .ok (.iaload, 1) := by decide +kernel
theorem dd_L_law_589 : decode cL_law 589 = .ok (.invokevirtual 78, 3) := by decide +kernel
theorem dd_L_law_592 : decode cL_law 592 = .ok (.aload_n 2, 1) := by decide +kernel
theorem dd_L_law_593 : decode cL_law 593 = .ok (.aload_n 0, 1) := by decide +kernel
theorem dd_L_law_594 : decode cL_law 594 = .ok (.iload_n 3, 1) := by decide +kernel
theorem dd_L_law_595 : decode cL_law 595 = .ok (.iconst 1, 1) := by decide +kernel
theorem dd_L_law_596 : decode cL_law 596 = .ok (.iadd, 1) := by decide +kernel
theorem dd_L_law_597 : decode cL_law 597 = .ok (.iaload, 1) := by decide +kernel
theorem dd_L_law_598 : decode cL_law 598 = .ok (.aload_n 0, 1) := by decide +kernel
theorem dd_L_law_599 : decode cL_law 599 = .ok (.iload_n 3, 1) := by decide +kernel
theorem dd_L_law_600 : decode cL_law 600 = .ok (.iconst 2, 1) := by decide +kernel
theorem dd_L_law_601 : decode cL_law 601 = .ok (.iadd, 1) := by decide +kernel
theorem dd_L_law_602 : decode cL_law 602 = .ok (.iaload, 1) := by decide +kernel
theorem dd_L_law_603 : decode cL_law 603 = .ok (.aload_n 0, 1) := by decide +kernel
theorem dd_L_law_604 : decode cL_law 604 = .ok (.iload_n 3, 1) := by decide +kernel
theorem dd_L_law_605 : decode cL_law 605 = .ok (.iconst 3, 1) := by decide +kernel
theorem dd_L_law_606 : decode cL_law 606 = .ok (.iadd, 1) := by decide +kernel
theorem dd_L_law_607 : decode cL_law 607 = .ok (.iaload, 1) := by decide +kernel
theorem dd_L_law_608 : decode cL_law 608 = .ok (.invokevirtual 81, 3) := by decide +kernel
theorem dd_L_law_611 : decode cL_law 611 = .ok (.if_icmp .eq 459, 3) := by decide +kernel
theorem dd_L_law_614 : decode cL_law 614 = .ok (.iconst 0, 1) := by decide +kernel
theorem dd_L_law_615 : decode cL_law 615 = .ok (.ireturn, 1) := by decide +kernel
def tb_L15 (L : Nat) (xs : Nat → Int32) (kd : Nat → Nat) : zTab := [(573, zt_aload 1 574), (574, zt_aload 0 575), (575, zt_iload 3 576), (576, zt_const (zI 1) 577), (577, zt_bin (fun x y => x + y) 578), (578, zt_sld L xs 579), (579, zt_aload 0 580), (580, zt_iload 3 581), (581, zt_const (zI 2) 582), (582, zt_bin (fun x y => x + y) 583), (583, zt_sld L xs 584), (584, zt_aload 0 585), (585, zt_iload 3 586), (586, zt_const (zI 3) 587), (587, zt_bin (fun x y => x + y) 588), (588, zt_sld L xs 589), (589, zt_call kd sp_X7_hangs 4 592), (592, zt_aload 2 593), (593, zt_aload 0 594), (594, zt_iload 3 595), (595, zt_const (zI 1) 596), (596, zt_bin (fun x y => x + y) 597), (597, zt_sld L xs 598), (598, zt_aload 0 599), (599, zt_iload 3 600), (600, zt_const (zI 2) 601), (601, zt_bin (fun x y => x + y) 602), (602, zt_sld L xs 603), (603, zt_aload 0 604), (604, zt_iload 3 605), (605, zt_const (zI 3) 606), (606, zt_bin (fun x y => x + y) 607), (607, zt_sld L xs 608), (608, zt_call kd sp_X8_hangs 4 611), (611, zt_icmp (fun x y => x = y) (fun x y => ¬ x = y) 1070 614), (614, zt_const (zI 0) 615), (615, (fun _ _ _ _ => False))]
def cu_L15 : zCut := [(1070, [])]
set_option maxRecDepth 20000 in
theorem tk_L15 {p : Program} {l : Launch} {e : Env} {R : Room} {s : State} {m : MethodId} {args : Array Value} {below : List Frame} {meth : Method} {c : Code} {D : va_G} {cy : Nat → ClassId} {A : Nat → Prop} {ad : Nat × Nat → Nat} {bl : zBl} {ce so : Nat} {Qm : State → Prop} {b L : Nat} {xs : Nat → Int32} (C0 : zCtx p l e R s m args below meth c D cy A ad bl 4 ce so Qm RL cL_law (60 + 1)) (hX : va_X b L xs s s.heap) (hbl : b < s.heap.size) (hbA : ¬ A b) (hb31 : ∀ o, ad (31, o) = b) : ∀ q ∈ tb_L15 L xs (zkd bl), zOk p l e R s m args below meth c D cy A ad bl 4 ce so Qm q.1 q.2 := by
  obtain ⟨hx, hb, hml, hown, hts, hK, hD, hA0, hN, hE, ⟨hR1, hR2⟩, hc1, hc2⟩ := id C0
  unfold tb_L15
  refine List.forall_mem_cons.mpr ⟨ok_aload_n hx hb rfl dd_L_law_573, ?_⟩
  refine List.forall_mem_cons.mpr ⟨ok_aload_n hx hb rfl dd_L_law_574, ?_⟩
  refine List.forall_mem_cons.mpr ⟨ok_iload_n hx hb rfl dd_L_law_575, ?_⟩
  refine List.forall_mem_cons.mpr ⟨ok_iconst hx hb dd_L_law_576 (by decide), ?_⟩
  refine List.forall_mem_cons.mpr ⟨ok_iadd hx hb dd_L_law_577, ?_⟩
  refine List.forall_mem_cons.mpr ⟨ok_sld hx hb hX hbl hbA hb31 dd_L_law_578, ?_⟩
  refine List.forall_mem_cons.mpr ⟨ok_aload_n hx hb rfl dd_L_law_579, ?_⟩
  refine List.forall_mem_cons.mpr ⟨ok_iload_n hx hb rfl dd_L_law_580, ?_⟩
  refine List.forall_mem_cons.mpr ⟨ok_iconst hx hb dd_L_law_581 (by decide), ?_⟩
  refine List.forall_mem_cons.mpr ⟨ok_iadd hx hb dd_L_law_582, ?_⟩
  refine List.forall_mem_cons.mpr ⟨ok_sld hx hb hX hbl hbA hb31 dd_L_law_583, ?_⟩
  refine List.forall_mem_cons.mpr ⟨ok_aload_n hx hb rfl dd_L_law_584, ?_⟩
  refine List.forall_mem_cons.mpr ⟨ok_iload_n hx hb rfl dd_L_law_585, ?_⟩
  refine List.forall_mem_cons.mpr ⟨ok_iconst hx hb dd_L_law_586 (by decide), ?_⟩
  refine List.forall_mem_cons.mpr ⟨ok_iadd hx hb dd_L_law_587, ?_⟩
  refine List.forall_mem_cons.mpr ⟨ok_sld hx hb hX hbl hbA hb31 dd_L_law_588, ?_⟩
  refine List.forall_mem_cons.mpr ⟨ok_callV (n := 3) zc_X7 rv_X7_hangs C0 (ms_X7_hangs 60 (by decide)) (by decide) wd_627 wd_624 wd_625 wd_626 wd_100 ⟨rfl, by decide +kernel, by decide +kernel, by decide +kernel⟩ dd_L_law_589, ?_⟩
  refine List.forall_mem_cons.mpr ⟨ok_aload_n hx hb rfl dd_L_law_592, ?_⟩
  refine List.forall_mem_cons.mpr ⟨ok_aload_n hx hb rfl dd_L_law_593, ?_⟩
  refine List.forall_mem_cons.mpr ⟨ok_iload_n hx hb rfl dd_L_law_594, ?_⟩
  refine List.forall_mem_cons.mpr ⟨ok_iconst hx hb dd_L_law_595 (by decide), ?_⟩
  refine List.forall_mem_cons.mpr ⟨ok_iadd hx hb dd_L_law_596, ?_⟩
  refine List.forall_mem_cons.mpr ⟨ok_sld hx hb hX hbl hbA hb31 dd_L_law_597, ?_⟩
  refine List.forall_mem_cons.mpr ⟨ok_aload_n hx hb rfl dd_L_law_598, ?_⟩
  refine List.forall_mem_cons.mpr ⟨ok_iload_n hx hb rfl dd_L_law_599, ?_⟩
  refine List.forall_mem_cons.mpr ⟨ok_iconst hx hb dd_L_law_600 (by decide), ?_⟩
  refine List.forall_mem_cons.mpr ⟨ok_iadd hx hb dd_L_law_601, ?_⟩
  refine List.forall_mem_cons.mpr ⟨ok_sld hx hb hX hbl hbA hb31 dd_L_law_602, ?_⟩
  refine List.forall_mem_cons.mpr ⟨ok_aload_n hx hb rfl dd_L_law_603, ?_⟩
  refine List.forall_mem_cons.mpr ⟨ok_iload_n hx hb rfl dd_L_law_604, ?_⟩
  refine List.forall_mem_cons.mpr ⟨ok_iconst hx hb dd_L_law_605 (by decide), ?_⟩
  refine List.forall_mem_cons.mpr ⟨ok_iadd hx hb dd_L_law_606, ?_⟩
  refine List.forall_mem_cons.mpr ⟨ok_sld hx hb hX hbl hbA hb31 dd_L_law_607, ?_⟩
  refine List.forall_mem_cons.mpr ⟨ok_callV (n := 3) zc_X8 rv_X8_hangs C0 (ms_X8_hangs 60 (by decide)) (by decide) wd_1049 wd_1046 wd_1047 wd_1048 wd_107 ⟨rfl, by decide +kernel, by decide +kernel, by decide +kernel⟩ dd_L_law_608, ?_⟩
  refine List.forall_mem_cons.mpr ⟨ok_icmp_eq hx hb dd_L_law_611 (by decide), ?_⟩
  refine List.forall_mem_cons.mpr ⟨ok_iconst hx hb dd_L_law_614 (by decide), ?_⟩
  refine List.forall_mem_cons.mpr ⟨ok_dead, ?_⟩
  exact fun _ h => absurd h List.not_mem_nil
set_option maxRecDepth 100000 in
theorem vc_L15_573 {L : Nat} {xs : Nat → Int32} {kd : Nat → Nat} {X : zX} (hX : ∀ (n pc : Nat) (ls : zLS) (st : List zV) (M : zM), zrun (tb_L15 L xs kd) cu_L15 n X pc ls st M → X pc ls st M) {i : Int32} {M : zM} (hk0 : kd 9 = 8) (hk1 : kd 0 = 1) (h : (vp_in (i + (1 : Int32)) L) ∧ (vp_in (i + (2 : Int32)) L) ∧ (vp_in (i + (3 : Int32)) L) ∧ (KdX kd) ∧ ∃ s1 : St, (RpX kd M s1) ∧ ∀ v1 : Int32, (v1.toInt = (ev_hangs s1 (xs (i + (1 : Int32)).toNatClampNeg).toInt (xs (i + (2 : Int32)).toNatClampNeg).toInt (xs (i + (3 : Int32)).toNatClampNeg).toInt).1) → ∀ M1 : zM, (RpX kd M1 (ev_hangs s1 (xs (i + (1 : Int32)).toNatClampNeg).toInt (xs (i + (2 : Int32)).toNatClampNeg).toInt (xs (i + (3 : Int32)).toNatClampNeg).toInt).2) → (fr9 M M1) → (vp_in (i + (1 : Int32)) L) ∧ (vp_in (i + (2 : Int32)) L) ∧ (vp_in (i + (3 : Int32)) L) ∧ ∃ s2 : St, (RpM M1 s2) ∧ ∀ v2 : Int32, (v2.toInt = (ev_hangs s2 (xs (i + (1 : Int32)).toNatClampNeg).toInt (xs (i + (2 : Int32)).toNatClampNeg).toInt (xs (i + (3 : Int32)).toNatClampNeg).toInt).1) → ∀ M2 : zM, (RpM M2 (ev_hangs s2 (xs (i + (1 : Int32)).toNatClampNeg).toInt (xs (i + (2 : Int32)).toNatClampNeg).toInt (xs (i + (3 : Int32)).toNatClampNeg).toInt).2) → (fr0 M1 M2) → ((v1 = v2) → X 1070 [some (zR 31 0), some (zR 0 0), some (zR 9 0), some (zI (i))] [] M2) ∧ ((¬ v1 = v2) → False)) : X 573 [some (zR 31 0), some (zR 0 0), some (zR 9 0), some (zI (i))] [] M := hX 38 573 _ [] M (show (31 = 31) ∧ (vp_in (i + (1 : Int32)) L) ∧ (31 = 31) ∧ (vp_in (i + (2 : Int32)) L) ∧ (31 = 31) ∧ (vp_in (i + (3 : Int32)) L) ∧ (kd 0 = 1) ∧ (KdX kd) ∧ ∃ s1 : St, (RpX kd M s1) ∧ ∀ v1 : Int32, (v1.toInt = (ev_hangs s1 (xs (i + (1 : Int32)).toNatClampNeg).toInt (xs (i + (2 : Int32)).toNatClampNeg).toInt (xs (i + (3 : Int32)).toNatClampNeg).toInt).1) → ∀ M1 : zM, (RpX kd M1 (ev_hangs s1 (xs (i + (1 : Int32)).toNatClampNeg).toInt (xs (i + (2 : Int32)).toNatClampNeg).toInt (xs (i + (3 : Int32)).toNatClampNeg).toInt).2) → (fr9 M M1) → (31 = 31) ∧ (vp_in (i + (1 : Int32)) L) ∧ (31 = 31) ∧ (vp_in (i + (2 : Int32)) L) ∧ (31 = 31) ∧ (vp_in (i + (3 : Int32)) L) ∧ (kd 9 = 8) ∧ ∃ s2 : St, (RpM M1 s2) ∧ ∀ v2 : Int32, (v2.toInt = (ev_hangs s2 (xs (i + (1 : Int32)).toNatClampNeg).toInt (xs (i + (2 : Int32)).toNatClampNeg).toInt (xs (i + (3 : Int32)).toNatClampNeg).toInt).1) → ∀ M2 : zM, (RpM M2 (ev_hangs s2 (xs (i + (1 : Int32)).toNatClampNeg).toInt (xs (i + (2 : Int32)).toNatClampNeg).toInt (xs (i + (3 : Int32)).toNatClampNeg).toInt).2) → (fr0 M1 M2) → ((v1 = v2) → X 1070 [some (zR 31 0), some (zR 0 0), some (zR 9 0), some (zI (i))] [] M2) ∧ ((¬ v1 = v2) → False) from ⟨rfl, ⟨h.1, have h := h.2; ⟨rfl, ⟨h.1, have h := h.2; ⟨rfl, ⟨h.1, have h := h.2; ⟨hk1, ⟨h.1, have h := h.2; h.elim (fun s1 h => ⟨s1, ⟨h.1, have h := h.2; fun v1 => have h := h v1; fun q => have h := h q; fun M1 => have h := h M1; fun q => have h := h q; fun q => have h := h q; ⟨rfl, ⟨h.1, have h := h.2; ⟨rfl, ⟨h.1, have h := h.2; ⟨rfl, ⟨h.1, have h := h.2; ⟨hk0, h.elim (fun s2 h => ⟨s2, ⟨h.1, have h := h.2; fun v2 => have h := h v2; fun q => have h := h q; fun M2 => have h := h M2; fun q => have h := h q; fun q => have h := h q; ⟨fun q => have h := h.1 q; h, fun q => have h := h.2 q; h⟩⟩⟩)⟩⟩⟩⟩⟩⟩⟩⟩⟩)⟩⟩⟩⟩⟩⟩⟩⟩)
theorem dd_L_law_616 : decode cL_law 616 = .ok (.aload_n 1, 1) := by decide +kernel
theorem dd_L_law_617 : decode cL_law 617 = .ok (.aload_n 0, 1) := by decide +kernel
theorem dd_L_law_618 : decode cL_law 618 = .ok (.iload_n 3, 1) := by decide +kernel
theorem dd_L_law_619 : decode cL_law 619 = .ok (.iconst 1, 1) := by decide +kernel
theorem dd_L_law_620 : decode cL_law 620 = .ok (.iadd, 1) := by decide +kernel
theorem dd_L_law_621 : decode cL_law 621 = .ok (.iaload, 1) := by decide +kernel
theorem dd_L_law_622 : decode cL_law 622 = .ok (.aload_n 0, 1) := by decide +kernel
theorem dd_L_law_623 : decode cL_law 623 = .ok (.iload_n 3, 1) := by decide +kernel
theorem dd_L_law_624 : decode cL_law 624 = .ok (.iconst 2, 1) := by decide +kernel
theorem dd_L_law_625 : decode cL_law 625 = .ok (.iadd, 1) := by decide +kernel
theorem dd_L_law_626 : decode cL_law 626 = .ok (.iaload, 1) := by decide +kernel
theorem dd_L_law_627 : decode cL_law 627 = .ok (.aload_n 0, 1) := by decide +kernel
theorem dd_L_law_628 : decode cL_law 628 = .ok (.iload_n 3, 1) := by decide +kernel
theorem dd_L_law_629 : decode cL_law 629 = .ok (.iconst 3, 1) := by decide +kernel
theorem dd_L_law_630 : decode cL_law 630 = .ok (.iadd, 1) := by decide +kernel
theorem dd_L_law_631 : decode cL_law 631 = .ok (.iaload, 1) := by decide +kernel
theorem dd_L_law_632 : decode cL_law 632 = .ok (.aload_n 0, 1) := by decide +kernel
theorem dd_L_law_633 : decode cL_law 633 = .ok (.iload_n 3, 1) := by decide +kernel
theorem dd_L_law_634 : decode cL_law 634 = .ok (.iconst 4, 1) := by decide +kernel
theorem dd_L_law_635 : decode cL_law 635 = .ok (.iadd, 1) := by decide +kernel
theorem dd_L_law_636 : decode cL_law 636 = .ok (.iaload, 1) := by decide +kernel
theorem dd_L_law_637 : decode cL_law 637 = .ok (.invokevirtual 82, 3) := by decide +kernel
theorem dd_L_law_640 : decode cL_law 640 = .ok (.aload_n 2, 1) := by decide +kernel
theorem dd_L_law_641 : decode cL_law 641 = .ok (.aload_n 0, 1) := by decide +kernel
theorem dd_L_law_642 : decode cL_law 642 = .ok (.iload_n 3, 1) := by decide +kernel
theorem dd_L_law_643 : decode cL_law 643 = .ok (.iconst 1, 1) := by decide +kernel
theorem dd_L_law_644 : decode cL_law 644 = .ok (.iadd, 1) := by decide +kernel
theorem dd_L_law_645 : decode cL_law 645 = .ok (.iaload, 1) := by decide +kernel
theorem dd_L_law_646 : decode cL_law 646 = .ok (.aload_n 0, 1) := by decide +kernel
theorem dd_L_law_647 : decode cL_law 647 = .ok (.iload_n 3, 1) := by decide +kernel
theorem dd_L_law_648 : decode cL_law 648 = .ok (.iconst 2, 1) := by decide +kernel
theorem dd_L_law_649 : decode cL_law 649 = .ok (.iadd, 1) := by decide +kernel
theorem dd_L_law_650 : decode cL_law 650 = .ok (.iaload, 1) := by decide +kernel
theorem dd_L_law_651 : decode cL_law 651 = .ok (.aload_n 0, 1) := by decide +kernel
theorem dd_L_law_652 : decode cL_law 652 = .ok (.iload_n 3, 1) := by decide +kernel
theorem dd_L_law_653 : decode cL_law 653 = .ok (.iconst 3, 1) := by decide +kernel
theorem dd_L_law_654 : decode cL_law 654 = .ok (.iadd, 1) := by decide +kernel
theorem dd_L_law_655 : decode cL_law 655 = .ok (.iaload, 1) := by decide +kernel
theorem dd_L_law_656 : decode cL_law 656 = .ok (.aload_n 0, 1) := by decide +kernel
theorem dd_L_law_657 : decode cL_law 657 = .ok (.iload_n 3, 1) := by decide +kernel
theorem dd_L_law_658 : decode cL_law 658 = .ok (.iconst 4, 1) := by decide +kernel
theorem dd_L_law_659 : decode cL_law 659 = .ok (.iadd, 1) := by decide +kernel
theorem dd_L_law_660 : decode cL_law 660 = .ok (.iaload, 1) := by decide +kernel
theorem dd_L_law_661 : decode cL_law 661 = .ok (.invokevirtual 85, 3) := by decide +kernel
theorem dd_L_law_664 : decode cL_law 664 = .ok (.if_icmp .eq 406, 3) := by decide +kernel
theorem dd_L_law_667 : decode cL_law 667 = .ok (.iconst 0, 1) := by decide +kernel
theorem dd_L_law_668 : decode cL_law 668 = .ok (.ireturn, 1) := by decide +kernel
def tb_L16 (L : Nat) (xs : Nat → Int32) (kd : Nat → Nat) : zTab := [(616, zt_aload 1 617), (617, zt_aload 0 618), (618, zt_iload 3 619), (619, zt_const (zI 1) 620), (620, zt_bin (fun x y => x + y) 621), (621, zt_sld L xs 622), (622, zt_aload 0 623), (623, zt_iload 3 624), (624, zt_const (zI 2) 625), (625, zt_bin (fun x y => x + y) 626), (626, zt_sld L xs 627), (627, zt_aload 0 628), (628, zt_iload 3 629), (629, zt_const (zI 3) 630), (630, zt_bin (fun x y => x + y) 631), (631, zt_sld L xs 632), (632, zt_aload 0 633), (633, zt_iload 3 634), (634, zt_const (zI 4) 635), (635, zt_bin (fun x y => x + y) 636), (636, zt_sld L xs 637), (637, zt_call kd sp_X7_strokes 5 640), (640, zt_aload 2 641), (641, zt_aload 0 642), (642, zt_iload 3 643), (643, zt_const (zI 1) 644), (644, zt_bin (fun x y => x + y) 645), (645, zt_sld L xs 646), (646, zt_aload 0 647), (647, zt_iload 3 648), (648, zt_const (zI 2) 649), (649, zt_bin (fun x y => x + y) 650), (650, zt_sld L xs 651), (651, zt_aload 0 652), (652, zt_iload 3 653), (653, zt_const (zI 3) 654), (654, zt_bin (fun x y => x + y) 655), (655, zt_sld L xs 656), (656, zt_aload 0 657), (657, zt_iload 3 658), (658, zt_const (zI 4) 659), (659, zt_bin (fun x y => x + y) 660), (660, zt_sld L xs 661), (661, zt_call kd sp_X8_strokes 5 664), (664, zt_icmp (fun x y => x = y) (fun x y => ¬ x = y) 1070 667), (667, zt_const (zI 0) 668), (668, (fun _ _ _ _ => False))]
def cu_L16 : zCut := [(1070, [])]
set_option maxRecDepth 20000 in
theorem tk_L16 {p : Program} {l : Launch} {e : Env} {R : Room} {s : State} {m : MethodId} {args : Array Value} {below : List Frame} {meth : Method} {c : Code} {D : va_G} {cy : Nat → ClassId} {A : Nat → Prop} {ad : Nat × Nat → Nat} {bl : zBl} {ce so : Nat} {Qm : State → Prop} {b L : Nat} {xs : Nat → Int32} (C0 : zCtx p l e R s m args below meth c D cy A ad bl 4 ce so Qm RL cL_law (60 + 1)) (hX : va_X b L xs s s.heap) (hbl : b < s.heap.size) (hbA : ¬ A b) (hb31 : ∀ o, ad (31, o) = b) : ∀ q ∈ tb_L16 L xs (zkd bl), zOk p l e R s m args below meth c D cy A ad bl 4 ce so Qm q.1 q.2 := by
  obtain ⟨hx, hb, hml, hown, hts, hK, hD, hA0, hN, hE, ⟨hR1, hR2⟩, hc1, hc2⟩ := id C0
  unfold tb_L16
  refine List.forall_mem_cons.mpr ⟨ok_aload_n hx hb rfl dd_L_law_616, ?_⟩
  refine List.forall_mem_cons.mpr ⟨ok_aload_n hx hb rfl dd_L_law_617, ?_⟩
  refine List.forall_mem_cons.mpr ⟨ok_iload_n hx hb rfl dd_L_law_618, ?_⟩
  refine List.forall_mem_cons.mpr ⟨ok_iconst hx hb dd_L_law_619 (by decide), ?_⟩
  refine List.forall_mem_cons.mpr ⟨ok_iadd hx hb dd_L_law_620, ?_⟩
  refine List.forall_mem_cons.mpr ⟨ok_sld hx hb hX hbl hbA hb31 dd_L_law_621, ?_⟩
  refine List.forall_mem_cons.mpr ⟨ok_aload_n hx hb rfl dd_L_law_622, ?_⟩
  refine List.forall_mem_cons.mpr ⟨ok_iload_n hx hb rfl dd_L_law_623, ?_⟩
  refine List.forall_mem_cons.mpr ⟨ok_iconst hx hb dd_L_law_624 (by decide), ?_⟩
  refine List.forall_mem_cons.mpr ⟨ok_iadd hx hb dd_L_law_625, ?_⟩
  refine List.forall_mem_cons.mpr ⟨ok_sld hx hb hX hbl hbA hb31 dd_L_law_626, ?_⟩
  refine List.forall_mem_cons.mpr ⟨ok_aload_n hx hb rfl dd_L_law_627, ?_⟩
  refine List.forall_mem_cons.mpr ⟨ok_iload_n hx hb rfl dd_L_law_628, ?_⟩
  refine List.forall_mem_cons.mpr ⟨ok_iconst hx hb dd_L_law_629 (by decide), ?_⟩
  refine List.forall_mem_cons.mpr ⟨ok_iadd hx hb dd_L_law_630, ?_⟩
  refine List.forall_mem_cons.mpr ⟨ok_sld hx hb hX hbl hbA hb31 dd_L_law_631, ?_⟩
  refine List.forall_mem_cons.mpr ⟨ok_aload_n hx hb rfl dd_L_law_632, ?_⟩
  refine List.forall_mem_cons.mpr ⟨ok_iload_n hx hb rfl dd_L_law_633, ?_⟩
  refine List.forall_mem_cons.mpr ⟨ok_iconst hx hb dd_L_law_634 (by decide), ?_⟩
  refine List.forall_mem_cons.mpr ⟨ok_iadd hx hb dd_L_law_635, ?_⟩
  refine List.forall_mem_cons.mpr ⟨ok_sld hx hb hX hbl hbA hb31 dd_L_law_636, ?_⟩
  refine List.forall_mem_cons.mpr ⟨ok_callV (n := 4) zc_X7 rv_X7_strokes C0 (ms_X7_strokes 60 (by decide)) (by decide) wd_635 wd_632 wd_633 wd_634 wd_100 ⟨rfl, by decide +kernel, by decide +kernel, by decide +kernel⟩ dd_L_law_637, ?_⟩
  refine List.forall_mem_cons.mpr ⟨ok_aload_n hx hb rfl dd_L_law_640, ?_⟩
  refine List.forall_mem_cons.mpr ⟨ok_aload_n hx hb rfl dd_L_law_641, ?_⟩
  refine List.forall_mem_cons.mpr ⟨ok_iload_n hx hb rfl dd_L_law_642, ?_⟩
  refine List.forall_mem_cons.mpr ⟨ok_iconst hx hb dd_L_law_643 (by decide), ?_⟩
  refine List.forall_mem_cons.mpr ⟨ok_iadd hx hb dd_L_law_644, ?_⟩
  refine List.forall_mem_cons.mpr ⟨ok_sld hx hb hX hbl hbA hb31 dd_L_law_645, ?_⟩
  refine List.forall_mem_cons.mpr ⟨ok_aload_n hx hb rfl dd_L_law_646, ?_⟩
  refine List.forall_mem_cons.mpr ⟨ok_iload_n hx hb rfl dd_L_law_647, ?_⟩
  refine List.forall_mem_cons.mpr ⟨ok_iconst hx hb dd_L_law_648 (by decide), ?_⟩
  refine List.forall_mem_cons.mpr ⟨ok_iadd hx hb dd_L_law_649, ?_⟩
  refine List.forall_mem_cons.mpr ⟨ok_sld hx hb hX hbl hbA hb31 dd_L_law_650, ?_⟩
  refine List.forall_mem_cons.mpr ⟨ok_aload_n hx hb rfl dd_L_law_651, ?_⟩
  refine List.forall_mem_cons.mpr ⟨ok_iload_n hx hb rfl dd_L_law_652, ?_⟩
  refine List.forall_mem_cons.mpr ⟨ok_iconst hx hb dd_L_law_653 (by decide), ?_⟩
  refine List.forall_mem_cons.mpr ⟨ok_iadd hx hb dd_L_law_654, ?_⟩
  refine List.forall_mem_cons.mpr ⟨ok_sld hx hb hX hbl hbA hb31 dd_L_law_655, ?_⟩
  refine List.forall_mem_cons.mpr ⟨ok_aload_n hx hb rfl dd_L_law_656, ?_⟩
  refine List.forall_mem_cons.mpr ⟨ok_iload_n hx hb rfl dd_L_law_657, ?_⟩
  refine List.forall_mem_cons.mpr ⟨ok_iconst hx hb dd_L_law_658 (by decide), ?_⟩
  refine List.forall_mem_cons.mpr ⟨ok_iadd hx hb dd_L_law_659, ?_⟩
  refine List.forall_mem_cons.mpr ⟨ok_sld hx hb hX hbl hbA hb31 dd_L_law_660, ?_⟩
  refine List.forall_mem_cons.mpr ⟨ok_callV (n := 4) zc_X8 rv_X8_strokes C0 (ms_X8_strokes 60 (by decide)) (by decide) wd_1053 wd_1050 wd_1051 wd_1052 wd_107 ⟨rfl, by decide +kernel, by decide +kernel, by decide +kernel⟩ dd_L_law_661, ?_⟩
  refine List.forall_mem_cons.mpr ⟨ok_icmp_eq hx hb dd_L_law_664 (by decide), ?_⟩
  refine List.forall_mem_cons.mpr ⟨ok_iconst hx hb dd_L_law_667 (by decide), ?_⟩
  refine List.forall_mem_cons.mpr ⟨ok_dead, ?_⟩
  exact fun _ h => absurd h List.not_mem_nil
set_option maxRecDepth 100000 in
theorem vc_L16_616 {L : Nat} {xs : Nat → Int32} {kd : Nat → Nat} {X : zX} (hX : ∀ (n pc : Nat) (ls : zLS) (st : List zV) (M : zM), zrun (tb_L16 L xs kd) cu_L16 n X pc ls st M → X pc ls st M) {i : Int32} {M : zM} (hk0 : kd 9 = 8) (hk1 : kd 0 = 1) (h : (vp_in (i + (1 : Int32)) L) ∧ (vp_in (i + (2 : Int32)) L) ∧ (vp_in (i + (3 : Int32)) L) ∧ (vp_in (i + (4 : Int32)) L) ∧ (KdX kd) ∧ ∃ s1 : St, (RpX kd M s1) ∧ ∀ v1 : Int32, (er_strokes s1 (xs (i + (1 : Int32)).toNatClampNeg).toInt (xs (i + (2 : Int32)).toNatClampNeg).toInt (xs (i + (3 : Int32)).toNatClampNeg).toInt (xs (i + (4 : Int32)).toNatClampNeg).toInt v1.toInt) → ∀ M1 : zM, (RpX kd M1 (es_strokes s1 (xs (i + (1 : Int32)).toNatClampNeg).toInt (xs (i + (2 : Int32)).toNatClampNeg).toInt (xs (i + (3 : Int32)).toNatClampNeg).toInt (xs (i + (4 : Int32)).toNatClampNeg).toInt)) → (fr9 M M1) → (vp_in (i + (1 : Int32)) L) ∧ (vp_in (i + (2 : Int32)) L) ∧ (vp_in (i + (3 : Int32)) L) ∧ (vp_in (i + (4 : Int32)) L) ∧ ∃ s2 : St, (RpM M1 s2) ∧ ∀ v2 : Int32, (er_strokes s2 (xs (i + (1 : Int32)).toNatClampNeg).toInt (xs (i + (2 : Int32)).toNatClampNeg).toInt (xs (i + (3 : Int32)).toNatClampNeg).toInt (xs (i + (4 : Int32)).toNatClampNeg).toInt v2.toInt) → ∀ M2 : zM, (RpM M2 (es_strokes s2 (xs (i + (1 : Int32)).toNatClampNeg).toInt (xs (i + (2 : Int32)).toNatClampNeg).toInt (xs (i + (3 : Int32)).toNatClampNeg).toInt (xs (i + (4 : Int32)).toNatClampNeg).toInt)) → (fr0 M1 M2) → ((v1 = v2) → X 1070 [some (zR 31 0), some (zR 0 0), some (zR 9 0), some (zI (i))] [] M2) ∧ ((¬ v1 = v2) → False)) : X 616 [some (zR 31 0), some (zR 0 0), some (zR 9 0), some (zI (i))] [] M := hX 48 616 _ [] M (show (31 = 31) ∧ (vp_in (i + (1 : Int32)) L) ∧ (31 = 31) ∧ (vp_in (i + (2 : Int32)) L) ∧ (31 = 31) ∧ (vp_in (i + (3 : Int32)) L) ∧ (31 = 31) ∧ (vp_in (i + (4 : Int32)) L) ∧ (kd 0 = 1) ∧ (KdX kd) ∧ ∃ s1 : St, (RpX kd M s1) ∧ ∀ v1 : Int32, (er_strokes s1 (xs (i + (1 : Int32)).toNatClampNeg).toInt (xs (i + (2 : Int32)).toNatClampNeg).toInt (xs (i + (3 : Int32)).toNatClampNeg).toInt (xs (i + (4 : Int32)).toNatClampNeg).toInt v1.toInt) → ∀ M1 : zM, (RpX kd M1 (es_strokes s1 (xs (i + (1 : Int32)).toNatClampNeg).toInt (xs (i + (2 : Int32)).toNatClampNeg).toInt (xs (i + (3 : Int32)).toNatClampNeg).toInt (xs (i + (4 : Int32)).toNatClampNeg).toInt)) → (fr9 M M1) → (31 = 31) ∧ (vp_in (i + (1 : Int32)) L) ∧ (31 = 31) ∧ (vp_in (i + (2 : Int32)) L) ∧ (31 = 31) ∧ (vp_in (i + (3 : Int32)) L) ∧ (31 = 31) ∧ (vp_in (i + (4 : Int32)) L) ∧ (kd 9 = 8) ∧ ∃ s2 : St, (RpM M1 s2) ∧ ∀ v2 : Int32, (er_strokes s2 (xs (i + (1 : Int32)).toNatClampNeg).toInt (xs (i + (2 : Int32)).toNatClampNeg).toInt (xs (i + (3 : Int32)).toNatClampNeg).toInt (xs (i + (4 : Int32)).toNatClampNeg).toInt v2.toInt) → ∀ M2 : zM, (RpM M2 (es_strokes s2 (xs (i + (1 : Int32)).toNatClampNeg).toInt (xs (i + (2 : Int32)).toNatClampNeg).toInt (xs (i + (3 : Int32)).toNatClampNeg).toInt (xs (i + (4 : Int32)).toNatClampNeg).toInt)) → (fr0 M1 M2) → ((v1 = v2) → X 1070 [some (zR 31 0), some (zR 0 0), some (zR 9 0), some (zI (i))] [] M2) ∧ ((¬ v1 = v2) → False) from ⟨rfl, ⟨h.1, have h := h.2; ⟨rfl, ⟨h.1, have h := h.2; ⟨rfl, ⟨h.1, have h := h.2; ⟨rfl, ⟨h.1, have h := h.2; ⟨hk1, ⟨h.1, have h := h.2; h.elim (fun s1 h => ⟨s1, ⟨h.1, have h := h.2; fun v1 => have h := h v1; fun q => have h := h q; fun M1 => have h := h M1; fun q => have h := h q; fun q => have h := h q; ⟨rfl, ⟨h.1, have h := h.2; ⟨rfl, ⟨h.1, have h := h.2; ⟨rfl, ⟨h.1, have h := h.2; ⟨rfl, ⟨h.1, have h := h.2; ⟨hk0, h.elim (fun s2 h => ⟨s2, ⟨h.1, have h := h.2; fun v2 => have h := h v2; fun q => have h := h q; fun M2 => have h := h M2; fun q => have h := h q; fun q => have h := h q; ⟨fun q => have h := h.1 q; h, fun q => have h := h.2 q; h⟩⟩⟩)⟩⟩⟩⟩⟩⟩⟩⟩⟩⟩⟩)⟩⟩⟩⟩⟩⟩⟩⟩⟩⟩)
theorem dd_L_law_669 : decode cL_law 669 = .ok (.aload_n 1, 1) := by decide +kernel
theorem dd_L_law_670 : decode cL_law 670 = .ok (.aload_n 0, 1) := by decide +kernel
theorem dd_L_law_671 : decode cL_law 671 = .ok (.iload_n 3, 1) := by decide +kernel
theorem dd_L_law_672 : decode cL_law 672 = .ok (.iconst 1, 1) := by decide +kernel
theorem dd_L_law_673 : decode cL_law 673 = .ok (.iadd, 1) := by decide +kernel
theorem dd_L_law_674 : decode cL_law 674 = .ok (.iaload, 1) := by decide +kernel
theorem dd_L_law_675 : decode cL_law 675 = .ok (.aload_n 0, 1) := by decide +kernel
theorem dd_L_law_676 : decode cL_law 676 = .ok (.iload_n 3, 1) := by decide +kernel
theorem dd_L_law_677 : decode cL_law 677 = .ok (.iconst 2, 1) := by decide +kernel
theorem dd_L_law_678 : decode cL_law 678 = .ok (.iadd, 1) := by decide +kernel
theorem dd_L_law_679 : decode cL_law 679 = .ok (.iaload, 1) := by decide +kernel
theorem dd_L_law_680 : decode cL_law 680 = .ok (.aload_n 0, 1) := by decide +kernel
theorem dd_L_law_681 : decode cL_law 681 = .ok (.iload_n 3, 1) := by decide +kernel
theorem dd_L_law_682 : decode cL_law 682 = .ok (.iconst 3, 1) := by decide +kernel
theorem dd_L_law_683 : decode cL_law 683 = .ok (.iadd, 1) := by decide +kernel
theorem dd_L_law_684 : decode cL_law 684 = .ok (.iaload, 1) := by decide +kernel
theorem dd_L_law_685 : decode cL_law 685 = .ok (.aload_n 0, 1) := by decide +kernel
theorem dd_L_law_686 : decode cL_law 686 = .ok (.iload_n 3, 1) := by decide +kernel
theorem dd_L_law_687 : decode cL_law 687 = .ok (.iconst 4, 1) := by decide +kernel
theorem dd_L_law_688 : decode cL_law 688 = .ok (.iadd, 1) := by decide +kernel
theorem dd_L_law_689 : decode cL_law 689 = .ok (.iaload, 1) := by decide +kernel
theorem dd_L_law_690 : decode cL_law 690 = .ok (.invokevirtual 86, 3) := by decide +kernel
theorem dd_L_law_693 : decode cL_law 693 = .ok (.aload_n 2, 1) := by decide +kernel
theorem dd_L_law_694 : decode cL_law 694 = .ok (.aload_n 0, 1) := by decide +kernel
theorem dd_L_law_695 : decode cL_law 695 = .ok (.iload_n 3, 1) := by decide +kernel
theorem dd_L_law_696 : decode cL_law 696 = .ok (.iconst 1, 1) := by decide +kernel
theorem dd_L_law_697 : decode cL_law 697 = .ok (.iadd, 1) := by decide +kernel
theorem dd_L_law_698 : decode cL_law 698 = .ok (.iaload, 1) := by decide +kernel
theorem dd_L_law_699 : decode cL_law 699 = .ok (.aload_n 0, 1) := by decide +kernel
theorem dd_L_law_700 : decode cL_law 700 = .ok (.iload_n 3, 1) := by decide +kernel
theorem dd_L_law_701 : decode cL_law 701 = .ok (.iconst 2, 1) := by decide +kernel
theorem dd_L_law_702 : decode cL_law 702 = .ok (.iadd, 1) := by decide +kernel
theorem dd_L_law_703 : decode cL_law 703 = .ok (.iaload, 1) := by decide +kernel
theorem dd_L_law_704 : decode cL_law 704 = .ok (.aload_n 0, 1) := by decide +kernel
theorem dd_L_law_705 : decode cL_law 705 = .ok (.iload_n 3, 1) := by decide +kernel
theorem dd_L_law_706 : decode cL_law 706 = .ok (.iconst 3, 1) := by decide +kernel
theorem dd_L_law_707 : decode cL_law 707 = .ok (.iadd, 1) := by decide +kernel
theorem dd_L_law_708 : decode cL_law 708 = .ok (.iaload, 1) := by decide +kernel
theorem dd_L_law_709 : decode cL_law 709 = .ok (.aload_n 0, 1) := by decide +kernel
theorem dd_L_law_710 : decode cL_law 710 = .ok (.iload_n 3, 1) := by decide +kernel
theorem dd_L_law_711 : decode cL_law 711 = .ok (.iconst 4, 1) := by decide +kernel
theorem dd_L_law_712 : decode cL_law 712 = .ok (.iadd, 1) := by decide +kernel
theorem dd_L_law_713 : decode cL_law 713 = .ok (.iaload, 1) := by decide +kernel
theorem dd_L_law_714 : decode cL_law 714 = .ok (.invokevirtual 89, 3) := by decide +kernel
theorem dd_L_law_717 : decode cL_law 717 = .ok (.if_icmp .eq 353, 3) := by decide +kernel
theorem dd_L_law_720 : decode cL_law 720 = .ok (.iconst 0, 1) := by decide +kernel
theorem dd_L_law_721 : decode cL_law 721 = .ok (.ireturn, 1) := by decide +kernel
def tb_L17 (L : Nat) (xs : Nat → Int32) (kd : Nat → Nat) : zTab := [(669, zt_aload 1 670), (670, zt_aload 0 671), (671, zt_iload 3 672), (672, zt_const (zI 1) 673), (673, zt_bin (fun x y => x + y) 674), (674, zt_sld L xs 675), (675, zt_aload 0 676), (676, zt_iload 3 677), (677, zt_const (zI 2) 678), (678, zt_bin (fun x y => x + y) 679), (679, zt_sld L xs 680), (680, zt_aload 0 681), (681, zt_iload 3 682), (682, zt_const (zI 3) 683), (683, zt_bin (fun x y => x + y) 684), (684, zt_sld L xs 685), (685, zt_aload 0 686), (686, zt_iload 3 687), (687, zt_const (zI 4) 688), (688, zt_bin (fun x y => x + y) 689), (689, zt_sld L xs 690), (690, zt_call kd sp_X7_parties 5 693), (693, zt_aload 2 694), (694, zt_aload 0 695), (695, zt_iload 3 696), (696, zt_const (zI 1) 697), (697, zt_bin (fun x y => x + y) 698), (698, zt_sld L xs 699), (699, zt_aload 0 700), (700, zt_iload 3 701), (701, zt_const (zI 2) 702), (702, zt_bin (fun x y => x + y) 703), (703, zt_sld L xs 704), (704, zt_aload 0 705), (705, zt_iload 3 706), (706, zt_const (zI 3) 707), (707, zt_bin (fun x y => x + y) 708), (708, zt_sld L xs 709), (709, zt_aload 0 710), (710, zt_iload 3 711), (711, zt_const (zI 4) 712), (712, zt_bin (fun x y => x + y) 713), (713, zt_sld L xs 714), (714, zt_call kd sp_X8_parties 5 717), (717, zt_icmp (fun x y => x = y) (fun x y => ¬ x = y) 1070 720), (720, zt_const (zI 0) 721), (721, (fun _ _ _ _ => False))]
def cu_L17 : zCut := [(1070, [])]
set_option maxRecDepth 20000 in
theorem tk_L17 {p : Program} {l : Launch} {e : Env} {R : Room} {s : State} {m : MethodId} {args : Array Value} {below : List Frame} {meth : Method} {c : Code} {D : va_G} {cy : Nat → ClassId} {A : Nat → Prop} {ad : Nat × Nat → Nat} {bl : zBl} {ce so : Nat} {Qm : State → Prop} {b L : Nat} {xs : Nat → Int32} (C0 : zCtx p l e R s m args below meth c D cy A ad bl 4 ce so Qm RL cL_law (60 + 1)) (hX : va_X b L xs s s.heap) (hbl : b < s.heap.size) (hbA : ¬ A b) (hb31 : ∀ o, ad (31, o) = b) : ∀ q ∈ tb_L17 L xs (zkd bl), zOk p l e R s m args below meth c D cy A ad bl 4 ce so Qm q.1 q.2 := by
  obtain ⟨hx, hb, hml, hown, hts, hK, hD, hA0, hN, hE, ⟨hR1, hR2⟩, hc1, hc2⟩ := id C0
  unfold tb_L17
  refine List.forall_mem_cons.mpr ⟨ok_aload_n hx hb rfl dd_L_law_669, ?_⟩
  refine List.forall_mem_cons.mpr ⟨ok_aload_n hx hb rfl dd_L_law_670, ?_⟩
  refine List.forall_mem_cons.mpr ⟨ok_iload_n hx hb rfl dd_L_law_671, ?_⟩
  refine List.forall_mem_cons.mpr ⟨ok_iconst hx hb dd_L_law_672 (by decide), ?_⟩
  refine List.forall_mem_cons.mpr ⟨ok_iadd hx hb dd_L_law_673, ?_⟩
  refine List.forall_mem_cons.mpr ⟨ok_sld hx hb hX hbl hbA hb31 dd_L_law_674, ?_⟩
  refine List.forall_mem_cons.mpr ⟨ok_aload_n hx hb rfl dd_L_law_675, ?_⟩
  refine List.forall_mem_cons.mpr ⟨ok_iload_n hx hb rfl dd_L_law_676, ?_⟩
  refine List.forall_mem_cons.mpr ⟨ok_iconst hx hb dd_L_law_677 (by decide), ?_⟩
  refine List.forall_mem_cons.mpr ⟨ok_iadd hx hb dd_L_law_678, ?_⟩
  refine List.forall_mem_cons.mpr ⟨ok_sld hx hb hX hbl hbA hb31 dd_L_law_679, ?_⟩
  refine List.forall_mem_cons.mpr ⟨ok_aload_n hx hb rfl dd_L_law_680, ?_⟩
  refine List.forall_mem_cons.mpr ⟨ok_iload_n hx hb rfl dd_L_law_681, ?_⟩
  refine List.forall_mem_cons.mpr ⟨ok_iconst hx hb dd_L_law_682 (by decide), ?_⟩
  refine List.forall_mem_cons.mpr ⟨ok_iadd hx hb dd_L_law_683, ?_⟩
  refine List.forall_mem_cons.mpr ⟨ok_sld hx hb hX hbl hbA hb31 dd_L_law_684, ?_⟩
  refine List.forall_mem_cons.mpr ⟨ok_aload_n hx hb rfl dd_L_law_685, ?_⟩
  refine List.forall_mem_cons.mpr ⟨ok_iload_n hx hb rfl dd_L_law_686, ?_⟩
  refine List.forall_mem_cons.mpr ⟨ok_iconst hx hb dd_L_law_687 (by decide), ?_⟩
  refine List.forall_mem_cons.mpr ⟨ok_iadd hx hb dd_L_law_688, ?_⟩
  refine List.forall_mem_cons.mpr ⟨ok_sld hx hb hX hbl hbA hb31 dd_L_law_689, ?_⟩
  refine List.forall_mem_cons.mpr ⟨ok_callV (n := 4) zc_X7 rv_X7_parties C0 (ms_X7_parties 60 (by decide)) (by decide) wd_678 wd_675 wd_676 wd_677 wd_100 ⟨rfl, by decide +kernel, by decide +kernel, by decide +kernel⟩ dd_L_law_690, ?_⟩
  refine List.forall_mem_cons.mpr ⟨ok_aload_n hx hb rfl dd_L_law_693, ?_⟩
  refine List.forall_mem_cons.mpr ⟨ok_aload_n hx hb rfl dd_L_law_694, ?_⟩
  refine List.forall_mem_cons.mpr ⟨ok_iload_n hx hb rfl dd_L_law_695, ?_⟩
  refine List.forall_mem_cons.mpr ⟨ok_iconst hx hb dd_L_law_696 (by decide), ?_⟩
  refine List.forall_mem_cons.mpr ⟨ok_iadd hx hb dd_L_law_697, ?_⟩
  refine List.forall_mem_cons.mpr ⟨ok_sld hx hb hX hbl hbA hb31 dd_L_law_698, ?_⟩
  refine List.forall_mem_cons.mpr ⟨ok_aload_n hx hb rfl dd_L_law_699, ?_⟩
  refine List.forall_mem_cons.mpr ⟨ok_iload_n hx hb rfl dd_L_law_700, ?_⟩
  refine List.forall_mem_cons.mpr ⟨ok_iconst hx hb dd_L_law_701 (by decide), ?_⟩
  refine List.forall_mem_cons.mpr ⟨ok_iadd hx hb dd_L_law_702, ?_⟩
  refine List.forall_mem_cons.mpr ⟨ok_sld hx hb hX hbl hbA hb31 dd_L_law_703, ?_⟩
  refine List.forall_mem_cons.mpr ⟨ok_aload_n hx hb rfl dd_L_law_704, ?_⟩
  refine List.forall_mem_cons.mpr ⟨ok_iload_n hx hb rfl dd_L_law_705, ?_⟩
  refine List.forall_mem_cons.mpr ⟨ok_iconst hx hb dd_L_law_706 (by decide), ?_⟩
  refine List.forall_mem_cons.mpr ⟨ok_iadd hx hb dd_L_law_707, ?_⟩
  refine List.forall_mem_cons.mpr ⟨ok_sld hx hb hX hbl hbA hb31 dd_L_law_708, ?_⟩
  refine List.forall_mem_cons.mpr ⟨ok_aload_n hx hb rfl dd_L_law_709, ?_⟩
  refine List.forall_mem_cons.mpr ⟨ok_iload_n hx hb rfl dd_L_law_710, ?_⟩
  refine List.forall_mem_cons.mpr ⟨ok_iconst hx hb dd_L_law_711 (by decide), ?_⟩
  refine List.forall_mem_cons.mpr ⟨ok_iadd hx hb dd_L_law_712, ?_⟩
  refine List.forall_mem_cons.mpr ⟨ok_sld hx hb hX hbl hbA hb31 dd_L_law_713, ?_⟩
  refine List.forall_mem_cons.mpr ⟨ok_callV (n := 4) zc_X8 rv_X8_parties C0 (ms_X8_parties 60 (by decide)) (by decide) wd_1085 wd_1082 wd_1083 wd_1084 wd_107 ⟨rfl, by decide +kernel, by decide +kernel, by decide +kernel⟩ dd_L_law_714, ?_⟩
  refine List.forall_mem_cons.mpr ⟨ok_icmp_eq hx hb dd_L_law_717 (by decide), ?_⟩
  refine List.forall_mem_cons.mpr ⟨ok_iconst hx hb dd_L_law_720 (by decide), ?_⟩
  refine List.forall_mem_cons.mpr ⟨ok_dead, ?_⟩
  exact fun _ h => absurd h List.not_mem_nil
set_option maxRecDepth 100000 in
theorem vc_L17_669 {L : Nat} {xs : Nat → Int32} {kd : Nat → Nat} {X : zX} (hX : ∀ (n pc : Nat) (ls : zLS) (st : List zV) (M : zM), zrun (tb_L17 L xs kd) cu_L17 n X pc ls st M → X pc ls st M) {i : Int32} {M : zM} (hk0 : kd 9 = 8) (hk1 : kd 0 = 1) (h : (vp_in (i + (1 : Int32)) L) ∧ (vp_in (i + (2 : Int32)) L) ∧ (vp_in (i + (3 : Int32)) L) ∧ (vp_in (i + (4 : Int32)) L) ∧ (KdX kd) ∧ ∃ s1 : St, (RpX kd M s1) ∧ ∀ v1 : Int32, (v1.toInt = (ev_parties s1 (xs (i + (1 : Int32)).toNatClampNeg).toInt (xs (i + (2 : Int32)).toNatClampNeg).toInt (xs (i + (3 : Int32)).toNatClampNeg).toInt (xs (i + (4 : Int32)).toNatClampNeg).toInt).1) → ∀ M1 : zM, (RpX kd M1 (ev_parties s1 (xs (i + (1 : Int32)).toNatClampNeg).toInt (xs (i + (2 : Int32)).toNatClampNeg).toInt (xs (i + (3 : Int32)).toNatClampNeg).toInt (xs (i + (4 : Int32)).toNatClampNeg).toInt).2) → (fr9 M M1) → (vp_in (i + (1 : Int32)) L) ∧ (vp_in (i + (2 : Int32)) L) ∧ (vp_in (i + (3 : Int32)) L) ∧ (vp_in (i + (4 : Int32)) L) ∧ ∃ s2 : St, (RpM M1 s2) ∧ ∀ v2 : Int32, (v2.toInt = (ev_parties s2 (xs (i + (1 : Int32)).toNatClampNeg).toInt (xs (i + (2 : Int32)).toNatClampNeg).toInt (xs (i + (3 : Int32)).toNatClampNeg).toInt (xs (i + (4 : Int32)).toNatClampNeg).toInt).1) → ∀ M2 : zM, (RpM M2 (ev_parties s2 (xs (i + (1 : Int32)).toNatClampNeg).toInt (xs (i + (2 : Int32)).toNatClampNeg).toInt (xs (i + (3 : Int32)).toNatClampNeg).toInt (xs (i + (4 : Int32)).toNatClampNeg).toInt).2) → (fr0 M1 M2) → ((v1 = v2) → X 1070 [some (zR 31 0), some (zR 0 0), some (zR 9 0), some (zI (i))] [] M2) ∧ ((¬ v1 = v2) → False)) : X 669 [some (zR 31 0), some (zR 0 0), some (zR 9 0), some (zI (i))] [] M := hX 48 669 _ [] M (show (31 = 31) ∧ (vp_in (i + (1 : Int32)) L) ∧ (31 = 31) ∧ (vp_in (i + (2 : Int32)) L) ∧ (31 = 31) ∧ (vp_in (i + (3 : Int32)) L) ∧ (31 = 31) ∧ (vp_in (i + (4 : Int32)) L) ∧ (kd 0 = 1) ∧ (KdX kd) ∧ ∃ s1 : St, (RpX kd M s1) ∧ ∀ v1 : Int32, (v1.toInt = (ev_parties s1 (xs (i + (1 : Int32)).toNatClampNeg).toInt (xs (i + (2 : Int32)).toNatClampNeg).toInt (xs (i + (3 : Int32)).toNatClampNeg).toInt (xs (i + (4 : Int32)).toNatClampNeg).toInt).1) → ∀ M1 : zM, (RpX kd M1 (ev_parties s1 (xs (i + (1 : Int32)).toNatClampNeg).toInt (xs (i + (2 : Int32)).toNatClampNeg).toInt (xs (i + (3 : Int32)).toNatClampNeg).toInt (xs (i + (4 : Int32)).toNatClampNeg).toInt).2) → (fr9 M M1) → (31 = 31) ∧ (vp_in (i + (1 : Int32)) L) ∧ (31 = 31) ∧ (vp_in (i + (2 : Int32)) L) ∧ (31 = 31) ∧ (vp_in (i + (3 : Int32)) L) ∧ (31 = 31) ∧ (vp_in (i + (4 : Int32)) L) ∧ (kd 9 = 8) ∧ ∃ s2 : St, (RpM M1 s2) ∧ ∀ v2 : Int32, (v2.toInt = (ev_parties s2 (xs (i + (1 : Int32)).toNatClampNeg).toInt (xs (i + (2 : Int32)).toNatClampNeg).toInt (xs (i + (3 : Int32)).toNatClampNeg).toInt (xs (i + (4 : Int32)).toNatClampNeg).toInt).1) → ∀ M2 : zM, (RpM M2 (ev_parties s2 (xs (i + (1 : Int32)).toNatClampNeg).toInt (xs (i + (2 : Int32)).toNatClampNeg).toInt (xs (i + (3 : Int32)).toNatClampNeg).toInt (xs (i + (4 : Int32)).toNatClampNeg).toInt).2) → (fr0 M1 M2) → ((v1 = v2) → X 1070 [some (zR 31 0), some (zR 0 0), some (zR 9 0), some (zI (i))] [] M2) ∧ ((¬ v1 = v2) → False) from ⟨rfl, ⟨h.1, have h := h.2; ⟨rfl, ⟨h.1, have h := h.2; ⟨rfl, ⟨h.1, have h := h.2; ⟨rfl, ⟨h.1, have h := h.2; ⟨hk1, ⟨h.1, have h := h.2; h.elim (fun s1 h => ⟨s1, ⟨h.1, have h := h.2; fun v1 => have h := h v1; fun q => have h := h q; fun M1 => have h := h M1; fun q => have h := h q; fun q => have h := h q; ⟨rfl, ⟨h.1, have h := h.2; ⟨rfl, ⟨h.1, have h := h.2; ⟨rfl, ⟨h.1, have h := h.2; ⟨rfl, ⟨h.1, have h := h.2; ⟨hk0, h.elim (fun s2 h => ⟨s2, ⟨h.1, have h := h.2; fun v2 => have h := h v2; fun q => have h := h q; fun M2 => have h := h M2; fun q => have h := h q; fun q => have h := h q; ⟨fun q => have h := h.1 q; h, fun q => have h := h.2 q; h⟩⟩⟩)⟩⟩⟩⟩⟩⟩⟩⟩⟩⟩⟩)⟩⟩⟩⟩⟩⟩⟩⟩⟩⟩)
