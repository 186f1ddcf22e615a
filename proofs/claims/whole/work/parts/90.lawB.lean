theorem dd_L_law_329 : decode cL_law 329 = .ok (.aload_n 1, 1) := by decide +kernel
theorem dd_L_law_330 : decode cL_law 330 = .ok (.invokevirtual 44, 3) := by decide +kernel
theorem dd_L_law_333 : decode cL_law 333 = .ok (.aload_n 2, 1) := by decide +kernel
theorem dd_L_law_334 : decode cL_law 334 = .ok (.invokevirtual 47, 3) := by decide +kernel
theorem dd_L_law_337 : decode cL_law 337 = .ok (.if_icmp .eq 733, 3) := by decide +kernel
theorem dd_L_law_340 : decode cL_law 340 = .ok (.iconst 0, 1) := by decide +kernel
theorem dd_L_law_341 : decode cL_law 341 = .ok (.ireturn, 1) := by decide +kernel
def tb_L7 (L : Nat) (xs : Nat → Int32) (kd : Nat → Nat) : zTab := [(329, zt_aload 1 330), (330, zt_call kd sp_X7_read 1 333), (333, zt_aload 2 334), (334, zt_call kd sp_X8_read 1 337), (337, zt_icmp (fun x y => x = y) (fun x y => ¬ x = y) 1070 340), (340, zt_const (zI 0) 341), (341, (fun _ _ _ _ => False))]
def cu_L7 : zCut := [(1070, [])]
set_option maxRecDepth 20000 in
theorem tk_L7 {p : Program} {l : Launch} {e : Env} {R : Room} {s : State} {m : MethodId} {args : Array Value} {below : List Frame} {meth : Method} {c : Code} {D : va_G} {cy : Nat → ClassId} {A : Nat → Prop} {ad : Nat × Nat → Nat} {bl : zBl} {ce so : Nat} {Qm : State → Prop} {b L : Nat} {xs : Nat → Int32} (C0 : zCtx p l e R s m args below meth c D cy A ad bl 4 ce so Qm RL cL_law (60 + 1)) (hX : va_X b L xs s s.heap) (hbl : b < s.heap.size) (hbA : ¬ A b) (hb31 : ∀ o, ad (31, o) = b) : ∀ q ∈ tb_L7 L xs (zkd bl), zOk p l e R s m args below meth c D cy A ad bl 4 ce so Qm q.1 q.2 := by
  obtain ⟨hx, hb, hml, hown, hts, hK, hD, hA0, hN, hE, ⟨hR1, hR2⟩, hc1, hc2⟩ := id C0
  unfold tb_L7
  refine List.forall_mem_cons.mpr ⟨ok_aload_n hx hb rfl dd_L_law_329, ?_⟩
  refine List.forall_mem_cons.mpr ⟨ok_callV (n := 0) zc_X7 rv_X7_read C0 (ms_X7_read 60 (by decide)) (by decide) wd_410 wd_407 wd_408 wd_409 wd_100 ⟨rfl, by decide +kernel, by decide +kernel, by decide +kernel⟩ dd_L_law_330, ?_⟩
  refine List.forall_mem_cons.mpr ⟨ok_aload_n hx hb rfl dd_L_law_333, ?_⟩
  refine List.forall_mem_cons.mpr ⟨ok_callV (n := 0) zc_X8 rv_X8_read C0 (ms_X8_read 60 (by decide)) (by decide) wd_1168 wd_1165 wd_1166 wd_1167 wd_107 ⟨rfl, by decide +kernel, by decide +kernel, by decide +kernel⟩ dd_L_law_334, ?_⟩
  refine List.forall_mem_cons.mpr ⟨ok_icmp_eq hx hb dd_L_law_337 (by decide), ?_⟩
  refine List.forall_mem_cons.mpr ⟨ok_iconst hx hb dd_L_law_340 (by decide), ?_⟩
  refine List.forall_mem_cons.mpr ⟨ok_dead, ?_⟩
  exact fun _ h => absurd h List.not_mem_nil
set_option maxRecDepth 100000 in
theorem vc_L7_329 {L : Nat} {xs : Nat → Int32} {kd : Nat → Nat} {X : zX} (hX : ∀ (n pc : Nat) (ls : zLS) (st : List zV) (M : zM), zrun (tb_L7 L xs kd) cu_L7 n X pc ls st M → X pc ls st M) {i : Int32} {M : zM} (hk0 : kd 9 = 8) (hk1 : kd 0 = 1) (h : (KdX kd) ∧ ∃ s1 : St, (RpX kd M s1) ∧ ∀ v1 : Int32, (v1.toInt = (ev_read s1).1) → ∀ M1 : zM, (RpX kd M1 (ev_read s1).2) → (fr9 M M1) → ∃ s2 : St, (RpM M1 s2) ∧ ∀ v2 : Int32, (v2.toInt = (ev_read s2).1) → ∀ M2 : zM, (RpM M2 (ev_read s2).2) → (fr0 M1 M2) → ((v1 = v2) → X 1070 [some (zR 31 0), some (zR 0 0), some (zR 9 0), some (zI (i))] [] M2) ∧ ((¬ v1 = v2) → False)) : X 329 [some (zR 31 0), some (zR 0 0), some (zR 9 0), some (zI (i))] [] M := hX 8 329 _ [] M (show (kd 0 = 1) ∧ (KdX kd) ∧ ∃ s1 : St, (RpX kd M s1) ∧ ∀ v1 : Int32, (v1.toInt = (ev_read s1).1) → ∀ M1 : zM, (RpX kd M1 (ev_read s1).2) → (fr9 M M1) → (kd 9 = 8) ∧ ∃ s2 : St, (RpM M1 s2) ∧ ∀ v2 : Int32, (v2.toInt = (ev_read s2).1) → ∀ M2 : zM, (RpM M2 (ev_read s2).2) → (fr0 M1 M2) → ((v1 = v2) → X 1070 [some (zR 31 0), some (zR 0 0), some (zR 9 0), some (zI (i))] [] M2) ∧ ((¬ v1 = v2) → False) from ⟨hk1, ⟨h.1, have h := h.2; h.elim (fun s1 h => ⟨s1, ⟨h.1, have h := h.2; fun v1 => have h := h v1; fun q => have h := h q; fun M1 => have h := h M1; fun q => have h := h q; fun q => have h := h q; ⟨hk0, h.elim (fun s2 h => ⟨s2, ⟨h.1, have h := h.2; fun v2 => have h := h v2; fun q => have h := h q; fun M2 => have h := h M2; fun q => have h := h q; fun q => have h := h q; ⟨fun q => have h := h.1 q; h, fun q => have h := h.2 q; h⟩⟩⟩)⟩⟩⟩)⟩⟩)
theorem dd_L_law_342 : decode cL_law 342 = .ok (.aload_n 1, 1) := by decide +kernel
theorem dd_L_law_343 : decode cL_law 343 = .ok (.aload_n 0, 1) := by decide +kernel
theorem dd_L_law_344 : decode cL_law 344 = .ok (.iload_n 3, 1) := by decide +kernel
theorem dd_L_law_345 : decode cL_law 345 = .ok (.iconst 1, 1) := by decide +kernel
theorem dd_L_law_346 : decode cL_law 346 = .ok (.iadd, 1) := by decide +kernel
theorem dd_L_law_347 : decode cL_law 347 = .ok (.iaload, 1) := by decide +kernel
theorem dd_L_law_348 : decode cL_law 348 = .ok (.invokevirtual 48, 3) := by decide +kernel
theorem dd_L_law_351 : decode cL_law 351 = .ok (.aload_n 2, 1) := by decide +kernel
theorem dd_L_law_352 : decode cL_law 352 = .ok (.aload_n 0, 1) := by decide +kernel
theorem dd_L_law_353 : decode cL_law 353 = .ok (.iload_n 3, 1) := by decide +kernel
theorem dd_L_law_354 : decode cL_law 354 = .ok (.iconst 1, 1) := by decide +kernel
theorem dd_L_law_355 : decode cL_law 355 = .ok (.iadd, 1) := by decide +kernel
theorem dd_L_law_356 : decode cL_law 356 = .ok (.iaload, 1) := by decide +kernel
theorem dd_L_law_357 : decode cL_law 357 = .ok (.invokevirtual 51, 3) := by decide +kernel
theorem dd_L_law_360 : decode cL_law 360 = .ok (.if_icmp .eq 710, 3) := by decide +kernel
theorem dd_L_law_363 : decode cL_law 363 = .ok (.iconst 0, 1) := by decide +kernel
theorem dd_L_law_364 : decode cL_law 364 = .ok (.ireturn, 1) := by decide +kernel
def tb_L8 (L : Nat) (xs : Nat → Int32) (kd : Nat → Nat) : zTab := [(342, zt_aload 1 343), (343, zt_aload 0 344), (344, zt_iload 3 345), (345, zt_const (zI 1) 346), (346, zt_bin (fun x y => x + y) 347), (347, zt_sld L xs 348), (348, zt_call kd sp_X7_layers 2 351), (351, zt_aload 2 352), (352, zt_aload 0 353), (353, zt_iload 3 354), (354, zt_const (zI 1) 355), (355, zt_bin (fun x y => x + y) 356), (356, zt_sld L xs 357), (357, zt_call kd sp_X8_layers 2 360), (360, zt_icmp (fun x y => x = y) (fun x y => ¬ x = y) 1070 363), (363, zt_const (zI 0) 364), (364, (fun _ _ _ _ => False))]
def cu_L8 : zCut := [(1070, [])]
set_option maxRecDepth 20000 in
theorem tk_L8 {p : Program} {l : Launch} {e : Env} {R : Room} {s : State} {m : MethodId} {args : Array Value} {below : List Frame} {meth : Method} {c : Code} {D : va_G} {cy : Nat → ClassId} {A : Nat → Prop} {ad : Nat × Nat → Nat} {bl : zBl} {ce so : Nat} {Qm : State → Prop} {b L : Nat} {xs : Nat → Int32} (C0 : zCtx p l e R s m args below meth c D cy A ad bl 4 ce so Qm RL cL_law (60 + 1)) (hX : va_X b L xs s s.heap) (hbl : b < s.heap.size) (hbA : ¬ A b) (hb31 : ∀ o, ad (31, o) = b) : ∀ q ∈ tb_L8 L xs (zkd bl), zOk p l e R s m args below meth c D cy A ad bl 4 ce so Qm q.1 q.2 := by
  obtain ⟨hx, hb, hml, hown, hts, hK, hD, hA0, hN, hE, ⟨hR1, hR2⟩, hc1, hc2⟩ := id C0
  unfold tb_L8
  refine List.forall_mem_cons.mpr ⟨ok_aload_n hx hb rfl dd_L_law_342, ?_⟩
  refine List.forall_mem_cons.mpr ⟨ok_aload_n hx hb rfl dd_L_law_343, ?_⟩
  refine List.forall_mem_cons.mpr ⟨ok_iload_n hx hb rfl dd_L_law_344, ?_⟩
  refine List.forall_mem_cons.mpr ⟨ok_iconst hx hb dd_L_law_345 (by decide), ?_⟩
  refine List.forall_mem_cons.mpr ⟨ok_iadd hx hb dd_L_law_346, ?_⟩
  refine List.forall_mem_cons.mpr ⟨ok_sld hx hb hX hbl hbA hb31 dd_L_law_347, ?_⟩
  refine List.forall_mem_cons.mpr ⟨ok_callV (n := 1) zc_X7 rv_X7_layers C0 (ms_X7_layers 60 (by decide)) (by decide) wd_530 wd_527 wd_528 wd_529 wd_100 ⟨rfl, by decide +kernel, by decide +kernel, by decide +kernel⟩ dd_L_law_348, ?_⟩
  refine List.forall_mem_cons.mpr ⟨ok_aload_n hx hb rfl dd_L_law_351, ?_⟩
  refine List.forall_mem_cons.mpr ⟨ok_aload_n hx hb rfl dd_L_law_352, ?_⟩
  refine List.forall_mem_cons.mpr ⟨ok_iload_n hx hb rfl dd_L_law_353, ?_⟩
  refine List.forall_mem_cons.mpr ⟨ok_iconst hx hb dd_L_law_354 (by decide), ?_⟩
  refine List.forall_mem_cons.mpr ⟨ok_iadd hx hb dd_L_law_355, ?_⟩
  refine List.forall_mem_cons.mpr ⟨ok_sld hx hb hX hbl hbA hb31 dd_L_law_356, ?_⟩
  refine List.forall_mem_cons.mpr ⟨ok_callV (n := 1) zc_X8 rv_X8_layers C0 (ms_X8_layers 60 (by decide)) (by decide) wd_980 wd_977 wd_978 wd_979 wd_107 ⟨rfl, by decide +kernel, by decide +kernel, by decide +kernel⟩ dd_L_law_357, ?_⟩
  refine List.forall_mem_cons.mpr ⟨ok_icmp_eq hx hb dd_L_law_360 (by decide), ?_⟩
  refine List.forall_mem_cons.mpr ⟨ok_iconst hx hb dd_L_law_363 (by decide), ?_⟩
  refine List.forall_mem_cons.mpr ⟨ok_dead, ?_⟩
  exact fun _ h => absurd h List.not_mem_nil
set_option maxRecDepth 100000 in
theorem vc_L8_342 {L : Nat} {xs : Nat → Int32} {kd : Nat → Nat} {X : zX} (hX : ∀ (n pc : Nat) (ls : zLS) (st : List zV) (M : zM), zrun (tb_L8 L xs kd) cu_L8 n X pc ls st M → X pc ls st M) {i : Int32} {M : zM} (hk0 : kd 9 = 8) (hk1 : kd 0 = 1) (h : (vp_in (i + (1 : Int32)) L) ∧ (KdX kd) ∧ ∃ s1 : St, (RpX kd M s1) ∧ ∀ v1 : Int32, (v1.toInt = (ev_layers s1 (xs (i + (1 : Int32)).toNatClampNeg).toInt).1) → ∀ M1 : zM, (RpX kd M1 (ev_layers s1 (xs (i + (1 : Int32)).toNatClampNeg).toInt).2) → (fr9 M M1) → (vp_in (i + (1 : Int32)) L) ∧ ∃ s2 : St, (RpM M1 s2) ∧ ∀ v2 : Int32, (v2.toInt = (ev_layers s2 (xs (i + (1 : Int32)).toNatClampNeg).toInt).1) → ∀ M2 : zM, (RpM M2 (ev_layers s2 (xs (i + (1 : Int32)).toNatClampNeg).toInt).2) → (fr0 M1 M2) → ((v1 = v2) → X 1070 [some (zR 31 0), some (zR 0 0), some (zR 9 0), some (zI (i))] [] M2) ∧ ((¬ v1 = v2) → False)) : X 342 [some (zR 31 0), some (zR 0 0), some (zR 9 0), some (zI (i))] [] M := hX 18 342 _ [] M (show (31 = 31) ∧ (vp_in (i + (1 : Int32)) L) ∧ (kd 0 = 1) ∧ (KdX kd) ∧ ∃ s1 : St, (RpX kd M s1) ∧ ∀ v1 : Int32, (v1.toInt = (ev_layers s1 (xs (i + (1 : Int32)).toNatClampNeg).toInt).1) → ∀ M1 : zM, (RpX kd M1 (ev_layers s1 (xs (i + (1 : Int32)).toNatClampNeg).toInt).2) → (fr9 M M1) → (31 = 31) ∧ (vp_in (i + (1 : Int32)) L) ∧ (kd 9 = 8) ∧ ∃ s2 : St, (RpM M1 s2) ∧ ∀ v2 : Int32, (v2.toInt = (ev_layers s2 (xs (i + (1 : Int32)).toNatClampNeg).toInt).1) → ∀ M2 : zM, (RpM M2 (ev_layers s2 (xs (i + (1 : Int32)).toNatClampNeg).toInt).2) → (fr0 M1 M2) → ((v1 = v2) → X 1070 [some (zR 31 0), some (zR 0 0), some (zR 9 0), some (zI (i))] [] M2) ∧ ((¬ v1 = v2) → False) from ⟨rfl, ⟨h.1, have h := h.2; ⟨hk1, ⟨h.1, have h := h.2; h.elim (fun s1 h => ⟨s1, ⟨h.1, have h := h.2; fun v1 => have h := h v1; fun q => have h := h q; fun M1 => have h := h M1; fun q => have h := h q; fun q => have h := h q; ⟨rfl, ⟨h.1, have h := h.2; ⟨hk0, h.elim (fun s2 h => ⟨s2, ⟨h.1, have h := h.2; fun v2 => have h := h v2; fun q => have h := h q; fun M2 => have h := h M2; fun q => have h := h q; fun q => have h := h q; ⟨fun q => have h := h.1 q; h, fun q => have h := h.2 q; h⟩⟩⟩)⟩⟩⟩⟩⟩)⟩⟩⟩⟩)
theorem dd_L_law_365 : decode cL_law 365 = .ok (.aload_n 1, 1) := by decide +kernel
theorem dd_L_law_366 : decode cL_law 366 = .ok (.aload_n 0, 1) := by decide +kernel
theorem dd_L_law_367 : decode cL_law 367 = .ok (.iload_n 3, 1) := by decide +kernel
theorem dd_L_law_368 : decode cL_law 368 = .ok (.iconst 1, 1) := by decide +kernel
theorem dd_L_law_369 : decode cL_law 369 = .ok (.iadd, 1) := by decide +kernel
theorem dd_L_law_370 : decode cL_law 370 = .ok (.iaload, 1) := by decide +kernel
theorem dd_L_law_371 : decode cL_law 371 = .ok (.aload_n 0, 1) := by decide +kernel
theorem dd_L_law_372 : decode cL_law 372 = .ok (.iload_n 3, 1) := by decide +kernel
theorem dd_L_law_373 : decode cL_law 373 = .ok (.iconst 2, 1) := by decide +kernel
theorem dd_L_law_374 : decode cL_law 374 = .ok (.iadd, 1) := by decide +kernel
theorem dd_L_law_375 : decode cL_law 375 = .ok (.iaload, 1) := by decide +kernel
theorem dd_L_law_376 : decode cL_law 376 = .ok (.aload_n 0, 1) := by decide +kernel
theorem dd_L_law_377 : decode cL_law 377 = .ok (.iload_n 3, 1) := by decide +kernel
theorem dd_L_law_378 : decode cL_law 378 = .ok (.iconst 3, 1) := by decide +kernel
theorem dd_L_law_379 : decode cL_law 379 = .ok (.iadd, 1) := by decide +kernel
theorem dd_L_law_380 : decode cL_law 380 = .ok (.iaload, 1) := by decide +kernel
theorem dd_L_law_381 : decode cL_law 381 = .ok (.invokevirtual 52, 3) := by decide +kernel
theorem dd_L_law_384 : decode cL_law 384 = .ok (.aload_n 2, 1) := by decide +kernel
theorem dd_L_law_385 : decode cL_law 385 = .ok (.aload_n 0, 1) := by decide +kernel
theorem dd_L_law_386 : decode cL_law 386 = .ok (.iload_n 3, 1) := by decide +kernel
theorem dd_L_law_387 : decode cL_law 387 = .ok (.iconst 1, 1) := by decide +kernel
theorem dd_L_law_388 : decode cL_law 388 = .ok (.iadd, 1) := by decide +kernel
theorem dd_L_law_389 : decode cL_law 389 = .ok (.iaload, 1) := by decide +kernel
theorem dd_L_law_390 : decode cL_law 390 = .ok (.aload_n 0, 1) := by decide +kernel
theorem dd_L_law_391 : decode cL_law 391 = .ok (.iload_n 3, 1) := by decide +kernel
theorem dd_L_law_392 : decode cL_law 392 = .ok (.iconst 2, 1) := by decide +kernel
theorem dd_L_law_393 : decode cL_law 393 = .ok (.iadd, 1) := by decide +kernel
theorem dd_L_law_394 : decode cL_law 394 = .ok (.iaload, 1) := by decide +kernel
theorem dd_L_law_395 : decode cL_law 395 = .ok (.aload_n 0, 1) := by decide +kernel
theorem dd_L_law_396 : decode cL_law 396 = .ok (.iload_n 3, 1) := by decide +kernel
theorem dd_L_law_397 : decode cL_law 397 = .ok (.iconst 3, 1) := by decide +kernel
theorem dd_L_law_398 : decode cL_law 398 = .ok (.iadd, 1) := by decide +kernel
theorem dd_L_law_399 : decode cL_law 399 = .ok (.iaload, 1) := by decide +kernel
theorem dd_L_law_400 : decode cL_law 400 = .ok (.invokevirtual 56, 3) := by decide +kernel
theorem dd_L_law_403 : decode cL_law 403 = .ok (.if_icmp .eq 667, 3) := by decide +kernel
theorem dd_L_law_406 : decode cL_law 406 = .ok (.iconst 0, 1) := by decide +kernel
theorem dd_L_law_407 : decode cL_law 407 = .ok (.ireturn, 1) := by decide +kernel
def tb_L9 (L : Nat) (xs : Nat → Int32) (kd : Nat → Nat) : zTab := [(365, zt_aload 1 366), (366, zt_aload 0 367), (367, zt_iload 3 368), (368, zt_const (zI 1) 369), (369, zt_bin (fun x y => x + y) 370), (370, zt_sld L xs 371), (371, zt_aload 0 372), (372, zt_iload 3 373), (373, zt_const (zI 2) 374), (374, zt_bin (fun x y => x + y) 375), (375, zt_sld L xs 376), (376, zt_aload 0 377), (377, zt_iload 3 378), (378, zt_const (zI 3) 379), (379, zt_bin (fun x y => x + y) 380), (380, zt_sld L xs 381), (381, zt_call kd sp_X7_of 4 384), (384, zt_aload 2 385), (385, zt_aload 0 386), (386, zt_iload 3 387), (387, zt_const (zI 1) 388), (388, zt_bin (fun x y => x + y) 389), (389, zt_sld L xs 390), (390, zt_aload 0 391), (391, zt_iload 3 392), (392, zt_const (zI 2) 393), (393, zt_bin (fun x y => x + y) 394), (394, zt_sld L xs 395), (395, zt_aload 0 396), (396, zt_iload 3 397), (397, zt_const (zI 3) 398), (398, zt_bin (fun x y => x + y) 399), (399, zt_sld L xs 400), (400, zt_call kd sp_X8_of 4 403), (403, zt_icmp (fun x y => x = y) (fun x y => ¬ x = y) 1070 406), (406, zt_const (zI 0) 407), (407, (fun _ _ _ _ => False))]
def cu_L9 : zCut := [(1070, [])]
set_option maxRecDepth 20000 in
theorem tk_L9 {p : Program} {l : Launch} {e : Env} {R : Room} {s : State} {m : MethodId} {args : Array Value} {below : List Frame} {meth : Method} {c : Code} {D : va_G} {cy : Nat → ClassId} {A : Nat → Prop} {ad : Nat × Nat → Nat} {bl : zBl} {ce so : Nat} {Qm : State → Prop} {b L : Nat} {xs : Nat → Int32} (C0 : zCtx p l e R s m args below meth c D cy A ad bl 4 ce so Qm RL cL_law (60 + 1)) (hX : va_X b L xs s s.heap) (hbl : b < s.heap.size) (hbA : ¬ A b) (hb31 : ∀ o, ad (31, o) = b) : ∀ q ∈ tb_L9 L xs (zkd bl), zOk p l e R s m args below meth c D cy A ad bl 4 ce so Qm q.1 q.2 := by
  obtain ⟨hx, hb, hml, hown, hts, hK, hD, hA0, hN, hE, ⟨hR1, hR2⟩, hc1, hc2⟩ := id C0
  unfold tb_L9
  refine List.forall_mem_cons.mpr ⟨ok_aload_n hx hb rfl dd_L_law_365, ?_⟩
  refine List.forall_mem_cons.mpr ⟨ok_aload_n hx hb rfl dd_L_law_366, ?_⟩
  refine List.forall_mem_cons.mpr ⟨ok_iload_n hx hb rfl dd_L_law_367, ?_⟩
  refine List.forall_mem_cons.mpr ⟨ok_iconst hx hb dd_L_law_368 (by decide), ?_⟩
  refine List.forall_mem_cons.mpr ⟨ok_iadd hx hb dd_L_law_369, ?_⟩
  refine List.forall_mem_cons.mpr ⟨ok_sld hx hb hX hbl hbA hb31 dd_L_law_370, ?_⟩
  refine List.forall_mem_cons.mpr ⟨ok_aload_n hx hb rfl dd_L_law_371, ?_⟩
  refine List.forall_mem_cons.mpr ⟨ok_iload_n hx hb rfl dd_L_law_372, ?_⟩
  refine List.forall_mem_cons.mpr ⟨ok_iconst hx hb dd_L_law_373 (by decide), ?_⟩
  refine List.forall_mem_cons.mpr ⟨ok_iadd hx hb dd_L_law_374, ?_⟩
  refine List.forall_mem_cons.mpr ⟨ok_sld hx hb hX hbl hbA hb31 dd_L_law_375, ?_⟩
  refine List.forall_mem_cons.mpr ⟨ok_aload_n hx hb rfl dd_L_law_376, ?_⟩
  refine List.forall_mem_cons.mpr ⟨ok_iload_n hx hb rfl dd_L_law_377, ?_⟩
  refine List.forall_mem_cons.mpr ⟨ok_iconst hx hb dd_L_law_378 (by decide), ?_⟩
  refine List.forall_mem_cons.mpr ⟨ok_iadd hx hb dd_L_law_379, ?_⟩
  refine List.forall_mem_cons.mpr ⟨ok_sld hx hb hX hbl hbA hb31 dd_L_law_380, ?_⟩
  refine List.forall_mem_cons.mpr ⟨ok_callV (n := 3) zc_X7 rv_X7_of C0 (ms_X7_of 60 (by decide)) (by decide) wd_534 wd_531 wd_532 wd_533 wd_100 ⟨rfl, by decide +kernel, by decide +kernel, by decide +kernel⟩ dd_L_law_381, ?_⟩
  refine List.forall_mem_cons.mpr ⟨ok_aload_n hx hb rfl dd_L_law_384, ?_⟩
  refine List.forall_mem_cons.mpr ⟨ok_aload_n hx hb rfl dd_L_law_385, ?_⟩
  refine List.forall_mem_cons.mpr ⟨ok_iload_n hx hb rfl dd_L_law_386, ?_⟩
  refine List.forall_mem_cons.mpr ⟨ok_iconst hx hb dd_L_law_387 (by decide), ?_⟩
  refine List.forall_mem_cons.mpr ⟨ok_iadd hx hb dd_L_law_388, ?_⟩
  refine List.forall_mem_cons.mpr ⟨ok_sld hx hb hX hbl hbA hb31 dd_L_law_389, ?_⟩
  refine List.forall_mem_cons.mpr ⟨ok_aload_n hx hb rfl dd_L_law_390, ?_⟩
  refine List.forall_mem_cons.mpr ⟨ok_iload_n hx hb rfl dd_L_law_391, ?_⟩
  refine List.forall_mem_cons.mpr ⟨ok_iconst hx hb dd_L_law_392 (by decide), ?_⟩
  refine List.forall_mem_cons.mpr ⟨ok_iadd hx hb dd_L_law_393, ?_⟩
  refine List.forall_mem_cons.mpr ⟨ok_sld hx hb hX hbl hbA hb31 dd_L_law_394, ?_⟩
  refine List.forall_mem_cons.mpr ⟨ok_aload_n hx hb rfl dd_L_law_395, ?_⟩
  refine List.forall_mem_cons.mpr ⟨ok_iload_n hx hb rfl dd_L_law_396, ?_⟩
  refine List.forall_mem_cons.mpr ⟨ok_iconst hx hb dd_L_law_397 (by decide), ?_⟩
  refine List.forall_mem_cons.mpr ⟨ok_iadd hx hb dd_L_law_398, ?_⟩
  refine List.forall_mem_cons.mpr ⟨ok_sld hx hb hX hbl hbA hb31 dd_L_law_399, ?_⟩
  refine List.forall_mem_cons.mpr ⟨ok_callV (n := 3) zc_X8 rv_X8_of C0 (ms_X8_of 60 (by decide)) (by decide) wd_984 wd_981 wd_982 wd_983 wd_107 ⟨rfl, by decide +kernel, by decide +kernel, by decide +kernel⟩ dd_L_law_400, ?_⟩
  refine List.forall_mem_cons.mpr ⟨ok_icmp_eq hx hb dd_L_law_403 (by decide), ?_⟩
  refine List.forall_mem_cons.mpr ⟨ok_iconst hx hb dd_L_law_406 (by decide), ?_⟩
  refine List.forall_mem_cons.mpr ⟨ok_dead, ?_⟩
  exact fun _ h => absurd h List.not_mem_nil
set_option maxRecDepth 100000 in
theorem vc_L9_365 {L : Nat} {xs : Nat → Int32} {kd : Nat → Nat} {X : zX} (hX : ∀ (n pc : Nat) (ls : zLS) (st : List zV) (M : zM), zrun (tb_L9 L xs kd) cu_L9 n X pc ls st M → X pc ls st M) {i : Int32} {M : zM} (hk0 : kd 9 = 8) (hk1 : kd 0 = 1) (h : (vp_in (i + (1 : Int32)) L) ∧ (vp_in (i + (2 : Int32)) L) ∧ (vp_in (i + (3 : Int32)) L) ∧ (KdX kd) ∧ ∃ s1 : St, (RpX kd M s1) ∧ ∀ v1 : Int32, (v1.toInt = (ev_of s1 (xs (i + (1 : Int32)).toNatClampNeg).toInt (xs (i + (2 : Int32)).toNatClampNeg).toInt (xs (i + (3 : Int32)).toNatClampNeg).toInt).1) → ∀ M1 : zM, (RpX kd M1 (ev_of s1 (xs (i + (1 : Int32)).toNatClampNeg).toInt (xs (i + (2 : Int32)).toNatClampNeg).toInt (xs (i + (3 : Int32)).toNatClampNeg).toInt).2) → (fr9 M M1) → (vp_in (i + (1 : Int32)) L) ∧ (vp_in (i + (2 : Int32)) L) ∧ (vp_in (i + (3 : Int32)) L) ∧ ∃ s2 : St, (RpM M1 s2) ∧ ∀ v2 : Int32, (v2.toInt = (ev_of s2 (xs (i + (1 : Int32)).toNatClampNeg).toInt (xs (i + (2 : Int32)).toNatClampNeg).toInt (xs (i + (3 : Int32)).toNatClampNeg).toInt).1) → ∀ M2 : zM, (RpM M2 (ev_of s2 (xs (i + (1 : Int32)).toNatClampNeg).toInt (xs (i + (2 : Int32)).toNatClampNeg).toInt (xs (i + (3 : Int32)).toNatClampNeg).toInt).2) → (fr0 M1 M2) → ((v1 = v2) → X 1070 [some (zR 31 0), some (zR 0 0), some (zR 9 0), some (zI (i))] [] M2) ∧ ((¬ v1 = v2) → False)) : X 365 [some (zR 31 0), some (zR 0 0), some (zR 9 0), some (zI (i))] [] M := hX 38 365 _ [] M (show (31 = 31) ∧ (vp_in (i + (1 : Int32)) L) ∧ (31 = 31) ∧ (vp_in (i + (2 : Int32)) L) ∧ (31 = 31) ∧ (vp_in (i + (3 : Int32)) L) ∧ (kd 0 = 1) ∧ (KdX kd) ∧ ∃ s1 : St, (RpX kd M s1) ∧ ∀ v1 : Int32, (v1.toInt = (ev_of s1 (xs (i + (1 : Int32)).toNatClampNeg).toInt (xs (i + (2 : Int32)).toNatClampNeg).toInt (xs (i + (3 : Int32)).toNatClampNeg).toInt).1) → ∀ M1 : zM, (RpX kd M1 (ev_of s1 (xs (i + (1 : Int32)).toNatClampNeg).toInt (xs (i + (2 : Int32)).toNatClampNeg).toInt (xs (i + (3 : Int32)).toNatClampNeg).toInt).2) → (fr9 M M1) → (31 = 31) ∧ (vp_in (i + (1 : Int32)) L) ∧ (31 = 31) ∧ (vp_in (i + (2 : Int32)) L) ∧ (31 = 31) ∧ (vp_in (i + (3 : Int32)) L) ∧ (kd 9 = 8) ∧ ∃ s2 : St, (RpM M1 s2) ∧ ∀ v2 : Int32, (v2.toInt = (ev_of s2 (xs (i + (1 : Int32)).toNatClampNeg).toInt (xs (i + (2 : Int32)).toNatClampNeg).toInt (xs (i + (3 : Int32)).toNatClampNeg).toInt).1) → ∀ M2 : zM, (RpM M2 (ev_of s2 (xs (i + (1 : Int32)).toNatClampNeg).toInt (xs (i + (2 : Int32)).toNatClampNeg).toInt (xs (i + (3 : Int32)).toNatClampNeg).toInt).2) → (fr0 M1 M2) → ((v1 = v2) → X 1070 [some (zR 31 0), some (zR 0 0), some (zR 9 0), some (zI (i))] [] M2) ∧ ((¬ v1 = v2) → False) from ⟨rfl, ⟨h.1, have h := h.2; ⟨rfl, ⟨h.1, have h := h.2; ⟨rfl, ⟨h.1, have h := h.2; ⟨hk1, ⟨h.1, have h := h.2; h.elim (fun s1 h => ⟨s1, ⟨h.1, have h := h.2; fun v1 => have h := h v1; fun q => have h := h q; fun M1 => have h := h M1; fun q => have h := h q; fun q => have h := h q; ⟨rfl, ⟨h.1, have h := h.2; ⟨rfl, ⟨h.1, have h := h.2; ⟨rfl, ⟨h.1, have h := h.2; ⟨hk0, h.elim (fun s2 h => ⟨s2, ⟨h.1, have h := h.2; fun v2 => have h := h v2; fun q => have h := h q; fun M2 => have h := h M2; fun q => have h := h q; fun q => have h := h q; ⟨fun q => have h := h.1 q; h, fun q => have h := h.2 q; h⟩⟩⟩)⟩⟩⟩⟩⟩⟩⟩⟩⟩)⟩⟩⟩⟩⟩⟩⟩⟩)
theorem dd_L_law_408 : decode cL_law 408 = .ok (.aload_n 1, 1) := by decide +kernel
theorem dd_L_law_409 : decode cL_law 409 = .ok (.aload_n 0, 1) := by decide +kernel
theorem dd_L_law_410 : decode cL_law 410 = .ok (.iload_n 3, 1) := by decide +kernel
theorem dd_L_law_411 : decode cL_law 411 = .ok (.iconst 1, 1) := by decide +kernel
theorem dd_L_law_412 : decode cL_law 412 = .ok (.iadd, 1) := by decide +kernel
theorem dd_L_law_413 : decode cL_law 413 = .ok (.iaload, 1) := by decide +kernel
theorem dd_L_law_414 : decode cL_law 414 = .ok (.aload_n 0, 1) := by decide +kernel
theorem dd_L_law_415 : decode cL_law 415 = .ok (.iload_n 3, 1) := by decide +kernel
theorem dd_L_law_416 : decode cL_law 416 = .ok (.iconst 2, 1) := by decide +kernel
theorem dd_L_law_417 : decode cL_law 417 = .ok (.iadd, 1) := by decide +kernel
theorem dd_L_law_418 : decode cL_law 418 = .ok (.iaload, 1) := by decide +kernel
theorem dd_L_law_419 : decode cL_law 419 = .ok (.aload_n 0, 1) := by decide +kernel
theorem dd_L_law_420 : decode cL_law 420 = .ok (.iload_n 3, 1) := by decide +kernel
theorem dd_L_law_421 : decode cL_law 421 = .ok (.iconst 3, 1) := by decide +kernel
theorem dd_L_law_422 : decode cL_law 422 = .ok (.iadd, 1) := by decide +kernel
theorem dd_L_law_423 : decode cL_law 423 = .ok (.iaload, 1) := by decide +kernel
theorem dd_L_law_424 : decode cL_law 424 = .ok (.invokevirtual 57, 3) := by decide +kernel
theorem dd_L_law_427 : decode cL_law 427 = .ok (.aload_n 2, 1) := by decide +kernel
theorem dd_L_law_428 : decode cL_law 428 = .ok (.aload_n 0, 1) := by decide +kernel
theorem dd_L_law_429 : decode cL_law 429 = .ok (.iload_n 3, 1) := by decide +kernel
theorem dd_L_law_430 : decode cL_law 430 = .ok (.iconst 1, 1) := by decide +kernel
theorem dd_L_law_431 : decode cL_law 431 = .ok (.iadd, 1) := by decide +kernel
theorem dd_L_law_432 : decode cL_law 432 = .ok (.iaload, 1) := by decide +kernel
theorem dd_L_law_433 : decode cL_law 433 = .ok (.aload_n 0, 1) := by decide +kernel
theorem dd_L_law_434 : decode cL_law 434 = .ok (.iload_n 3, 1) := by decide +kernel
theorem dd_L_law_435 : decode cL_law 435 = .ok (.iconst 2, 1) := by decide +kernel
theorem dd_L_law_436 : decode cL_law 436 = .ok (.iadd, 1) := by decide +kernel
theorem dd_L_law_437 : decode cL_law 437 = .ok (.iaload, 1) := by decide +kernel
theorem dd_L_law_438 : decode cL_law 438 = .ok (.aload_n 0, 1) := by decide +kernel
theorem dd_L_law_439 : decode cL_law 439 = .ok (.iload_n 3, 1) := by decide +kernel
theorem dd_L_law_440 : decode cL_law 440 = .ok (.iconst 3, 1) := by decide +kernel
theorem dd_L_law_441 : decode cL_law 441 = .ok (.iadd, 1) := by decide +kernel
theorem dd_L_law_442 : decode cL_law 442 = .ok (.iaload, 1) := by decide +kernel
theorem dd_L_law_443 : decode cL_law 443 = .ok (.invokevirtual 60, 3) := by decide +kernel
theorem dd_L_law_446 : decode cL_law 446 = .ok (.if_icmp .eq 624, 3) := by decide +kernel
theorem dd_L_law_449 : decode cL_law 449 = .ok (.iconst 0, 1) := by decide +kernel
theorem dd_L_law_450 : decode cL_law 450 = .ok (.ireturn, 1) := by decide +kernel
def tb_L10 (L : Nat) (xs : Nat → Int32) (kd : Nat → Nat) : zTab := [(408, zt_aload 1 409), (409, zt_aload 0 410), (410, zt_iload 3 411), (411, zt_const (zI 1) 412), (412, zt_bin (fun x y => x + y) 413), (413, zt_sld L xs 414), (414, zt_aload 0 415), (415, zt_iload 3 416), (416, zt_const (zI 2) 417), (417, zt_bin (fun x y => x + y) 418), (418, zt_sld L xs 419), (419, zt_aload 0 420), (420, zt_iload 3 421), (421, zt_const (zI 3) 422), (422, zt_bin (fun x y => x + y) 423), (423, zt_sld L xs 424), (424, zt_call kd sp_X7_binds 4 427), (427, zt_aload 2 428), (428, zt_aload 0 429), (429, zt_iload 3 430), (430, zt_const (zI 1) 431), (431, zt_bin (fun x y => x + y) 432), (432, zt_sld L xs 433), (433, zt_aload 0 434), (434, zt_iload 3 435), (435, zt_const (zI 2) 436), (436, zt_bin (fun x y => x + y) 437), (437, zt_sld L xs 438), (438, zt_aload 0 439), (439, zt_iload 3 440), (440, zt_const (zI 3) 441), (441, zt_bin (fun x y => x + y) 442), (442, zt_sld L xs 443), (443, zt_call kd sp_X8_binds 4 446), (446, zt_icmp (fun x y => x = y) (fun x y => ¬ x = y) 1070 449), (449, zt_const (zI 0) 450), (450, (fun _ _ _ _ => False))]
def cu_L10 : zCut := [(1070, [])]
set_option maxRecDepth 20000 in
theorem tk_L10 {p : Program} {l : Launch} {e : Env} {R : Room} {s : State} {m : MethodId} {args : Array Value} {below : List Frame} {meth : Method} {c : Code} {D : va_G} {cy : Nat → ClassId} {A : Nat → Prop} {ad : Nat × Nat → Nat} {bl : zBl} {ce so : Nat} {Qm : State → Prop} {b L : Nat} {xs : Nat → Int32} (C0 : zCtx p l e R s m args below meth c D cy A ad bl 4 ce so Qm RL cL_law (60 + 1)) (hX : va_X b L xs s s.heap) (hbl : b < s.heap.size) (hbA : ¬ A b) (hb31 : ∀ o, ad (31, o) = b) : ∀ q ∈ tb_L10 L xs (zkd bl), zOk p l e R s m args below meth c D cy A ad bl 4 ce so Qm q.1 q.2 := by
  obtain ⟨hx, hb, hml, hown, hts, hK, hD, hA0, hN, hE, ⟨hR1, hR2⟩, hc1, hc2⟩ := id C0
  unfold tb_L10
  refine List.forall_mem_cons.mpr ⟨ok_aload_n hx hb rfl dd_L_law_408, ?_⟩
  refine List.forall_mem_cons.mpr ⟨ok_aload_n hx hb rfl dd_L_law_409, ?_⟩
  refine List.forall_mem_cons.mpr ⟨ok_iload_n hx hb rfl dd_L_law_410, ?_⟩
  refine List.forall_mem_cons.mpr ⟨ok_iconst hx hb dd_L_law_411 (by decide), ?_⟩
  refine List.forall_mem_cons.mpr ⟨ok_iadd hx hb dd_L_law_412, ?_⟩
  refine List.forall_mem_cons.mpr ⟨ok_sld hx hb hX hbl hbA hb31 dd_L_law_413, ?_⟩
  refine List.forall_mem_cons.mpr ⟨ok_aload_n hx hb rfl dd_L_law_414, ?_⟩
  refine List.forall_mem_cons.mpr ⟨ok_iload_n hx hb rfl dd_L_law_415, ?_⟩
  refine List.forall_mem_cons.mpr ⟨ok_iconst hx hb dd_L_law_416 (by decide), ?_⟩
  refine List.forall_mem_cons.mpr ⟨ok_iadd hx hb dd_L_law_417, ?_⟩
  refine List.forall_mem_cons.mpr ⟨ok_sld hx hb hX hbl hbA hb31 dd_L_law_418, ?_⟩
  refine List.forall_mem_cons.mpr ⟨ok_aload_n hx hb rfl dd_L_law_419, ?_⟩
  refine List.forall_mem_cons.mpr ⟨ok_iload_n hx hb rfl dd_L_law_420, ?_⟩
  refine List.forall_mem_cons.mpr ⟨ok_iconst hx hb dd_L_law_421 (by decide), ?_⟩
  refine List.forall_mem_cons.mpr ⟨ok_iadd hx hb dd_L_law_422, ?_⟩
  refine List.forall_mem_cons.mpr ⟨ok_sld hx hb hX hbl hbA hb31 dd_L_law_423, ?_⟩
  refine List.forall_mem_cons.mpr ⟨ok_callV (n := 3) zc_X7 rv_X7_binds C0 (ms_X7_binds 60 (by decide)) (by decide) wd_543 wd_540 wd_541 wd_542 wd_100 ⟨rfl, by decide +kernel, by decide +kernel, by decide +kernel⟩ dd_L_law_424, ?_⟩
  refine List.forall_mem_cons.mpr ⟨ok_aload_n hx hb rfl dd_L_law_427, ?_⟩
  refine List.forall_mem_cons.mpr ⟨ok_aload_n hx hb rfl dd_L_law_428, ?_⟩
  refine List.forall_mem_cons.mpr ⟨ok_iload_n hx hb rfl dd_L_law_429, ?_⟩
  refine List.forall_mem_cons.mpr ⟨ok_iconst hx hb dd_L_law_430 (by decide), ?_⟩
  refine List.forall_mem_cons.mpr ⟨ok_iadd hx hb dd_L_law_431, ?_⟩
  refine List.forall_mem_cons.mpr ⟨ok_sld hx hb hX hbl hbA hb31 dd_L_law_432, ?_⟩
  refine List.forall_mem_cons.mpr ⟨ok_aload_n hx hb rfl dd_L_law_433, ?_⟩
  refine List.forall_mem_cons.mpr ⟨ok_iload_n hx hb rfl dd_L_law_434, ?_⟩
  refine List.forall_mem_cons.mpr ⟨ok_iconst hx hb dd_L_law_435 (by decide), ?_⟩
  refine List.forall_mem_cons.mpr ⟨ok_iadd hx hb dd_L_law_436, ?_⟩
  refine List.forall_mem_cons.mpr ⟨ok_sld hx hb hX hbl hbA hb31 dd_L_law_437, ?_⟩
  refine List.forall_mem_cons.mpr ⟨ok_aload_n hx hb rfl dd_L_law_438, ?_⟩
  refine List.forall_mem_cons.mpr ⟨ok_iload_n hx hb rfl dd_L_law_439, ?_⟩
  refine List.forall_mem_cons.mpr ⟨ok_iconst hx hb dd_L_law_440 (by decide), ?_⟩
  refine List.forall_mem_cons.mpr ⟨ok_iadd hx hb dd_L_law_441, ?_⟩
  refine List.forall_mem_cons.mpr ⟨ok_sld hx hb hX hbl hbA hb31 dd_L_law_442, ?_⟩
  refine List.forall_mem_cons.mpr ⟨ok_callV (n := 3) zc_X8 rv_X8_binds C0 (ms_X8_binds 60 (by decide)) (by decide) wd_992 wd_989 wd_990 wd_991 wd_107 ⟨rfl, by decide +kernel, by decide +kernel, by decide +kernel⟩ dd_L_law_443, ?_⟩
  refine List.forall_mem_cons.mpr ⟨ok_icmp_eq hx hb dd_L_law_446 (by decide), ?_⟩
  refine List.forall_mem_cons.mpr ⟨ok_iconst hx hb dd_L_law_449 (by decide), ?_⟩
  refine List.forall_mem_cons.mpr ⟨ok_dead, ?_⟩
  exact fun _ h => absurd h List.not_mem_nil
set_option maxRecDepth 100000 in
theorem vc_L10_408 {L : Nat} {xs : Nat → Int32} {kd : Nat → Nat} {X : zX} (hX : ∀ (n pc : Nat) (ls : zLS) (st : List zV) (M : zM), zrun (tb_L10 L xs kd) cu_L10 n X pc ls st M → X pc ls st M) {i : Int32} {M : zM} (hk0 : kd 9 = 8) (hk1 : kd 0 = 1) (h : (vp_in (i + (1 : Int32)) L) ∧ (vp_in (i + (2 : Int32)) L) ∧ (vp_in (i + (3 : Int32)) L) ∧ (KdX kd) ∧ ∃ s1 : St, (RpX kd M s1) ∧ ∀ v1 : Int32, (v1.toInt = (ev_binds s1 (xs (i + (1 : Int32)).toNatClampNeg).toInt (xs (i + (2 : Int32)).toNatClampNeg).toInt (xs (i + (3 : Int32)).toNatClampNeg).toInt).1) → ∀ M1 : zM, (RpX kd M1 (ev_binds s1 (xs (i + (1 : Int32)).toNatClampNeg).toInt (xs (i + (2 : Int32)).toNatClampNeg).toInt (xs (i + (3 : Int32)).toNatClampNeg).toInt).2) → (fr9 M M1) → (vp_in (i + (1 : Int32)) L) ∧ (vp_in (i + (2 : Int32)) L) ∧ (vp_in (i + (3 : Int32)) L) ∧ ∃ s2 : St, (RpM M1 s2) ∧ ∀ v2 : Int32, (v2.toInt = (ev_binds s2 (xs (i + (1 : Int32)).toNatClampNeg).toInt (xs (i + (2 : Int32)).toNatClampNeg).toInt (xs (i + (3 : Int32)).toNatClampNeg).toInt).1) → ∀ M2 : zM, (RpM M2 (ev_binds s2 (xs (i + (1 : Int32)).toNatClampNeg).toInt (xs (i + (2 : Int32)).toNatClampNeg).toInt (xs (i + (3 : Int32)).toNatClampNeg).toInt).2) → (fr0 M1 M2) → ((v1 = v2) → X 1070 [some (zR 31 0), some (zR 0 0), some (zR 9 0), some (zI (i))] [] M2) ∧ ((¬ v1 = v2) → False)) : X 408 [some (zR 31 0), some (zR 0 0), some (zR 9 0), some (zI (i))] [] M := hX 38 408 _ [] M (show (31 = 31) ∧ (vp_in (i + (1 : Int32)) L) ∧ (31 = 31) ∧ (vp_in (i + (2 : Int32)) L) ∧ (31 = 31) ∧ (vp_in (i + (3 : Int32)) L) ∧ (kd 0 = 1) ∧ (KdX kd) ∧ ∃ s1 : St, (RpX kd M s1) ∧ ∀ v1 : Int32, (v1.toInt = (ev_binds s1 (xs (i + (1 : Int32)).toNatClampNeg).toInt (xs (i + (2 : Int32)).toNatClampNeg).toInt (xs (i + (3 : Int32)).toNatClampNeg).toInt).1) → ∀ M1 : zM, (RpX kd M1 (ev_binds s1 (xs (i + (1 : Int32)).toNatClampNeg).toInt (xs (i + (2 : Int32)).toNatClampNeg).toInt (xs (i + (3 : Int32)).toNatClampNeg).toInt).2) → (fr9 M M1) → (31 = 31) ∧ (vp_in (i + (1 : Int32)) L) ∧ (31 = 31) ∧ (vp_in (i + (2 : Int32)) L) ∧ (31 = 31) ∧ (vp_in (i + (3 : Int32)) L) ∧ (kd 9 = 8) ∧ ∃ s2 : St, (RpM M1 s2) ∧ ∀ v2 : Int32, (v2.toInt = (ev_binds s2 (xs (i + (1 : Int32)).toNatClampNeg).toInt (xs (i + (2 : Int32)).toNatClampNeg).toInt (xs (i + (3 : Int32)).toNatClampNeg).toInt).1) → ∀ M2 : zM, (RpM M2 (ev_binds s2 (xs (i + (1 : Int32)).toNatClampNeg).toInt (xs (i + (2 : Int32)).toNatClampNeg).toInt (xs (i + (3 : Int32)).toNatClampNeg).toInt).2) → (fr0 M1 M2) → ((v1 = v2) → X 1070 [some (zR 31 0), some (zR 0 0), some (zR 9 0), some (zI (i))] [] M2) ∧ ((¬ v1 = v2) → False) from ⟨rfl, ⟨h.1, have h := h.2; ⟨rfl, ⟨h.1, have h := h.2; ⟨rfl, ⟨h.1, have h := h.2; ⟨hk1, ⟨h.1, have h := h.2; h.elim (fun s1 h => ⟨s1, ⟨h.1, have h := h.2; fun v1 => have h := h v1; fun q => have h := h q; fun M1 => have h := h M1; fun q => have h := h q; fun q => have h := h q; ⟨rfl, ⟨h.1, have h := h.2; ⟨rfl, ⟨h.1, have h := h.2; ⟨rfl, ⟨h.1, have h := h.2; ⟨hk0, h.elim (fun s2 h => ⟨s2, ⟨h.1, have h := h.2; fun v2 => have h := h v2; fun q => have h := h q; fun M2 => have h := h M2; fun q => have h := h q; fun q => have h := h q; ⟨fun q => have h := h.1 q; h, fun q => have h := h.2 q; h⟩⟩⟩)⟩⟩⟩⟩⟩⟩⟩⟩⟩)⟩⟩⟩⟩⟩⟩⟩⟩)
theorem dd_L_law_451 : decode cL_law 451 = .ok (.aload_n 1, 1) := by decide +kernel
theorem dd_L_law_452 : decode cL_law 452 = .ok (.aload_n 0, 1) := by decide +kernel
theorem dd_L_law_453 : decode cL_law 453 = .ok (.iload_n 3, 1) := by decide +kernel
theorem dd_L_law_454 : decode cL_law 454 = .ok (.iconst 1, 1) := by decide +kernel
theorem dd_L_law_455 : decode cL_law 455 = .ok (.iadd, 1) := by decide +kernel
theorem dd_L_law_456 : decode cL_law 456 = .ok (.iaload, 1) := by decide +kernel
theorem dd_L_law_457 : decode cL_law 457 = .ok (.aload_n 0, 1) := by decide +kernel
theorem dd_L_law_458 : decode cL_law 458 = .ok (.iload_n 3, 1) := by decide +kernel
theorem dd_L_law_459 : decode cL_law 459 = .ok (.iconst 2, 1) := by decide +kernel
theorem dd_L_law_460 : decode cL_law 460 = .ok (.iadd, 1) := by decide +kernel
theorem dd_L_law_461 : decode cL_law 461 = .ok (.iaload, 1) := by decide +kernel
theorem dd_L_law_462 : decode cL_law 462 = .ok (.invokevirtual 61, 3) := by decide +kernel
theorem dd_L_law_465 : decode cL_law 465 = .ok (.aload_n 2, 1) := by decide +kernel
theorem dd_L_law_466 : decode cL_law 466 = .ok (.aload_n 0, 1) := by decide +kernel
theorem dd_L_law_467 : decode cL_law 467 = .ok (.iload_n 3, 1) := by decide +kernel
theorem dd_L_law_468 : decode cL_law 468 = .ok (.iconst 1, 1) := by decide +kernel
theorem dd_L_law_469 : decode cL_law 469 = .ok (.iadd, 1) := by decide +kernel
theorem dd_L_law_470 : decode cL_law 470 = .ok (.iaload, 1) := by decide +kernel
theorem dd_L_law_471 : decode cL_law 471 = .ok (.aload_n 0, 1) := by decide +kernel
theorem dd_L_law_472 : decode cL_law 472 = .ok (.iload_n 3, 1) := by decide +kernel
theorem dd_L_law_473 : decode cL_law 473 = .ok (.iconst 2, 1) := by decide +kernel
theorem dd_L_law_474 : decode cL_law 474 = .ok (.iadd, 1) := by decide +kernel
theorem dd_L_law_475 : decode cL_law 475 = .ok (.iaload, 1) := by decide +kernel
theorem dd_L_law_476 : decode cL_law 476 = .ok (.invokevirtual 65, 3) := by decide +kernel
theorem dd_L_law_479 : decode cL_law 479 = .ok (.if_icmp .eq 591, 3) := by decide +kernel
theorem dd_L_law_482 : decode cL_law 482 = .ok (.iconst 0, 1) := by decide +kernel
theorem dd_L_law_483 : decode cL_law 483 = .ok (.ireturn, 1) := by decide +kernel
def tb_L11 (L : Nat) (xs : Nat → Int32) (kd : Nat → Nat) : zTab := [(451, zt_aload 1 452), (452, zt_aload 0 453), (453, zt_iload 3 454), (454, zt_const (zI 1) 455), (455, zt_bin (fun x y => x + y) 456), (456, zt_sld L xs 457), (457, zt_aload 0 458), (458, zt_iload 3 459), (459, zt_const (zI 2) 460), (460, zt_bin (fun x y => x + y) 461), (461, zt_sld L xs 462), (462, zt_call kd sp_X7_rule 3 465), (465, zt_aload 2 466), (466, zt_aload 0 467), (467, zt_iload 3 468), (468, zt_const (zI 1) 469), (469, zt_bin (fun x y => x + y) 470), (470, zt_sld L xs 471), (471, zt_aload 0 472), (472, zt_iload 3 473), (473, zt_const (zI 2) 474), (474, zt_bin (fun x y => x + y) 475), (475, zt_sld L xs 476), (476, zt_call kd sp_X8_rule 3 479), (479, zt_icmp (fun x y => x = y) (fun x y => ¬ x = y) 1070 482), (482, zt_const (zI 0) 483), (483, (fun _ _ _ _ => False))]
def cu_L11 : zCut := [(1070, [])]
set_option maxRecDepth 20000 in
theorem tk_L11 {p : Program} {l : Launch} {e : Env} {R : Room} {s : State} {m : MethodId} {args : Array Value} {below : List Frame} {meth : Method} {c : Code} {D : va_G} {cy : Nat → ClassId} {A : Nat → Prop} {ad : Nat × Nat → Nat} {bl : zBl} {ce so : Nat} {Qm : State → Prop} {b L : Nat} {xs : Nat → Int32} (C0 : zCtx p l e R s m args below meth c D cy A ad bl 4 ce so Qm RL cL_law (60 + 1)) (hX : va_X b L xs s s.heap) (hbl : b < s.heap.size) (hbA : ¬ A b) (hb31 : ∀ o, ad (31, o) = b) : ∀ q ∈ tb_L11 L xs (zkd bl), zOk p l e R s m args below meth c D cy A ad bl 4 ce so Qm q.1 q.2 := by
  obtain ⟨hx, hb, hml, hown, hts, hK, hD, hA0, hN, hE, ⟨hR1, hR2⟩, hc1, hc2⟩ := id C0
  unfold tb_L11
  refine List.forall_mem_cons.mpr ⟨ok_aload_n hx hb rfl dd_L_law_451, ?_⟩
  refine List.forall_mem_cons.mpr ⟨ok_aload_n hx hb rfl dd_L_law_452, ?_⟩
  refine List.forall_mem_cons.mpr ⟨ok_iload_n hx hb rfl dd_L_law_453, ?_⟩
  refine List.forall_mem_cons.mpr ⟨ok_iconst hx hb dd_L_law_454 (by decide), ?_⟩
  refine List.forall_mem_cons.mpr ⟨ok_iadd hx hb dd_L_law_455, ?_⟩
  refine List.forall_mem_cons.mpr ⟨ok_sld hx hb hX hbl hbA hb31 dd_L_law_456, ?_⟩
  refine List.forall_mem_cons.mpr ⟨ok_aload_n hx hb rfl dd_L_law_457, ?_⟩
  refine List.forall_mem_cons.mpr ⟨ok_iload_n hx hb rfl dd_L_law_458, ?_⟩
  refine List.forall_mem_cons.mpr ⟨ok_iconst hx hb dd_L_law_459 (by decide), ?_⟩
  refine List.forall_mem_cons.mpr ⟨ok_iadd hx hb dd_L_law_460, ?_⟩
  refine List.forall_mem_cons.mpr ⟨ok_sld hx hb hX hbl hbA hb31 dd_L_law_461, ?_⟩
  refine List.forall_mem_cons.mpr ⟨ok_callV (n := 2) zc_X7 rv_X7_rule C0 (ms_X7_rule 60 (by decide)) (by decide) wd_574 wd_571 wd_572 wd_573 wd_100 ⟨rfl, by decide +kernel, by decide +kernel, by decide +kernel⟩ dd_L_law_462, ?_⟩
  refine List.forall_mem_cons.mpr ⟨ok_aload_n hx hb rfl dd_L_law_465, ?_⟩
  refine List.forall_mem_cons.mpr ⟨ok_aload_n hx hb rfl dd_L_law_466, ?_⟩
  refine List.forall_mem_cons.mpr ⟨ok_iload_n hx hb rfl dd_L_law_467, ?_⟩
  refine List.forall_mem_cons.mpr ⟨ok_iconst hx hb dd_L_law_468 (by decide), ?_⟩
  refine List.forall_mem_cons.mpr ⟨ok_iadd hx hb dd_L_law_469, ?_⟩
  refine List.forall_mem_cons.mpr ⟨ok_sld hx hb hX hbl hbA hb31 dd_L_law_470, ?_⟩
  refine List.forall_mem_cons.mpr ⟨ok_aload_n hx hb rfl dd_L_law_471, ?_⟩
  refine List.forall_mem_cons.mpr ⟨ok_iload_n hx hb rfl dd_L_law_472, ?_⟩
  refine List.forall_mem_cons.mpr ⟨ok_iconst hx hb dd_L_law_473 (by decide), ?_⟩
  refine List.forall_mem_cons.mpr ⟨ok_iadd hx hb dd_L_law_474, ?_⟩
  refine List.forall_mem_cons.mpr ⟨ok_sld hx hb hX hbl hbA hb31 dd_L_law_475, ?_⟩
  refine List.forall_mem_cons.mpr ⟨ok_callV (n := 2) zc_X8 rv_X8_rule C0 (ms_X8_rule 60 (by decide)) (by decide) wd_1020 wd_1017 wd_1018 wd_1019 wd_107 ⟨rfl, by decide +kernel, by decide +kernel, by decide +kernel⟩ dd_L_law_476, ?_⟩
  refine List.forall_mem_cons.mpr ⟨ok_icmp_eq hx hb dd_L_law_479 (by decide), ?_⟩
  refine List.forall_mem_cons.mpr ⟨ok_iconst hx hb dd_L_law_482 (by decide), ?_⟩
  refine List.forall_mem_cons.mpr ⟨ok_dead, ?_⟩
  exact fun _ h => absurd h List.not_mem_nil
set_option maxRecDepth 100000 in
theorem vc_L11_451 {L : Nat} {xs : Nat → Int32} {kd : Nat → Nat} {X : zX} (hX : ∀ (n pc : Nat) (ls : zLS) (st : List zV) (M : zM), zrun (tb_L11 L xs kd) cu_L11 n X pc ls st M → X pc ls st M) {i : Int32} {M : zM} (hk0 : kd 9 = 8) (hk1 : kd 0 = 1) (h : (vp_in (i + (1 : Int32)) L) ∧ (vp_in (i + (2 : Int32)) L) ∧ (KdX kd) ∧ ∃ s1 : St, (RpX kd M s1) ∧ ∀ v1 : Int32, (v1.toInt = (ev_rule s1 (xs (i + (1 : Int32)).toNatClampNeg).toInt (xs (i + (2 : Int32)).toNatClampNeg).toInt).1) → ∀ M1 : zM, (RpX kd M1 (ev_rule s1 (xs (i + (1 : Int32)).toNatClampNeg).toInt (xs (i + (2 : Int32)).toNatClampNeg).toInt).2) → (fr9 M M1) → (vp_in (i + (1 : Int32)) L) ∧ (vp_in (i + (2 : Int32)) L) ∧ ∃ s2 : St, (RpM M1 s2) ∧ ∀ v2 : Int32, (v2.toInt = (ev_rule s2 (xs (i + (1 : Int32)).toNatClampNeg).toInt (xs (i + (2 : Int32)).toNatClampNeg).toInt).1) → ∀ M2 : zM, (RpM M2 (ev_rule s2 (xs (i + (1 : Int32)).toNatClampNeg).toInt (xs (i + (2 : Int32)).toNatClampNeg).toInt).2) → (fr0 M1 M2) → ((v1 = v2) → X 1070 [some (zR 31 0), some (zR 0 0), some (zR 9 0), some (zI (i))] [] M2) ∧ ((¬ v1 = v2) → False)) : X 451 [some (zR 31 0), some (zR 0 0), some (zR 9 0), some (zI (i))] [] M := hX 28 451 _ [] M (show (31 = 31) ∧ (vp_in (i + (1 : Int32)) L) ∧ (31 = 31) ∧ (vp_in (i + (2 : Int32)) L) ∧ (kd 0 = 1) ∧ (KdX kd) ∧ ∃ s1 : St, (RpX kd M s1) ∧ ∀ v1 : Int32, (v1.toInt = (ev_rule s1 (xs (i + (1 : Int32)).toNatClampNeg).toInt (xs (i + (2 : Int32)).toNatClampNeg).toInt).1) → ∀ M1 : zM, (RpX kd M1 (ev_rule s1 (xs (i + (1 : Int32)).toNatClampNeg).toInt (xs (i + (2 : Int32)).toNatClampNeg).toInt).2) → (fr9 M M1) → (31 = 31) ∧ (vp_in (i + (1 : Int32)) L) ∧ (31 = 31) ∧ (vp_in (i + (2 : Int32)) L) ∧ (kd 9 = 8) ∧ ∃ s2 : St, (RpM M1 s2) ∧ ∀ v2 : Int32, (v2.toInt = (ev_rule s2 (xs (i + (1 : Int32)).toNatClampNeg).toInt (xs (i + (2 : Int32)).toNatClampNeg).toInt).1) → ∀ M2 : zM, (RpM M2 (ev_rule s2 (xs (i + (1 : Int32)).toNatClampNeg).toInt (xs (i + (2 : Int32)).toNatClampNeg).toInt).2) → (fr0 M1 M2) → ((v1 = v2) → X 1070 [some (zR 31 0), some (zR 0 0), some (zR 9 0), some (zI (i))] [] M2) ∧ ((¬ v1 = v2) → False) from ⟨rfl, ⟨h.1, have h := h.2; ⟨rfl, ⟨h.1, have h := h.2; ⟨hk1, ⟨h.1, have h := h.2; h.elim (fun s1 h => ⟨s1, ⟨h.1, have h := h.2; fun v1 => have h := h v1; fun q => have h := h q; fun M1 => have h := h M1; fun q => have h := h q; fun q => have h := h q; ⟨rfl, ⟨h.1, have h := h.2; ⟨rfl, ⟨h.1, have h := h.2; ⟨hk0, h.elim (fun s2 h => ⟨s2, ⟨h.1, have h := h.2; fun v2 => have h := h v2; fun q => have h := h q; fun M2 => have h := h M2; fun q => have h := h q; fun q => have h := h q; ⟨fun q => have h := h.1 q; h, fun q => have h := h.2 q; h⟩⟩⟩)⟩⟩⟩⟩⟩⟩⟩)⟩⟩⟩⟩⟩⟩)
theorem dd_L_law_484 : decode cL_law 484 = .ok (.aload_n 1, 1) := by decide +kernel
theorem dd_L_law_485 : decode cL_law 485 = .ok (.aload_n 0, 1) := by decide +kernel
theorem dd_L_law_486 : decode cL_law 486 = .ok (.iload_n 3, 1) := by decide +kernel
theorem dd_L_law_487 : decode cL_law 487 = .ok (.iconst 1, 1) := by decide +kernel
theorem dd_L_law_488 : decode cL_law 488 = .ok (.iadd, 1) := by decide +kernel
theorem dd_L_law_489 : decode cL_law 489 = .ok (.iaload, 1) := by decide +kernel
theorem dd_L_law_490 : decode cL_law 490 = .ok (.aload_n 0, 1) := by decide +kernel
theorem dd_L_law_491 : decode cL_law 491 = .ok (.iload_n 3, 1) := by decide +kernel
theorem dd_L_law_492 : decode cL_law 492 = .ok (.iconst 2, 1) := by decide +kernel
theorem dd_L_law_493 : decode cL_law 493 = .ok (.iadd, 1) := by decide +kernel
theorem dd_L_law_494 : decode cL_law 494 = .ok (.iaload, 1) := by decide +kernel
theorem dd_L_law_495 : decode cL_law 495 = .ok (.invokevirtual 66, 3) := by decide +kernel
theorem dd_L_law_498 : decode cL_law 498 = .ok (.aload_n 2, 1) := by decide +kernel
theorem dd_L_law_499 : decode cL_law 499 = .ok (.aload_n 0, 1) := by decide +kernel
theorem dd_L_law_500 : decode cL_law 500 = .ok (.iload_n 3, 1) := by decide +kernel
theorem dd_L_law_501 : decode cL_law 501 = .ok (.iconst 1, 1) := by decide +kernel
theorem dd_L_law_502 : decode cL_law 502 = .ok (.iadd, 1) := by decide +kernel
theorem dd_L_law_503 : decode cL_law 503 = .ok (.iaload, 1) := by decide +kernel
theorem dd_L_law_504 : decode cL_law 504 = .ok (.aload_n 0, 1) := by decide +kernel
theorem dd_L_law_505 : decode cL_law 505 = .ok (.iload_n 3, 1) := by decide +kernel
theorem dd_L_law_506 : decode cL_law 506 = .ok (.iconst 2, 1) := by decide +kernel
theorem dd_L_law_507 : decode cL_law 507 = .ok (.iadd, 1) := by decide +kernel
theorem dd_L_law_508 : decode cL_law 508 = .ok (.iaload, 1) := by decide +kernel
theorem dd_L_law_509 : decode cL_law 509 = .ok (.invokevirtual 69, 3) := by decide +kernel
theorem dd_L_law_512 : decode cL_law 512 = .ok (.if_icmp .eq 558, 3) := by decide +kernel
theorem dd_L_law_515 : decode cL_law 515 = .ok (.iconst 0, 1) := by decide +kernel
theorem dd_L_law_516 : decode cL_law 516 = .ok (.ireturn, 1) := by decide +kernel
def tb_L12 (L : Nat) (xs : Nat → Int32) (kd : Nat → Nat) : zTab := [(484, zt_aload 1 485), (485, zt_aload 0 486), (486, zt_iload 3 487), (487, zt_const (zI 1) 488), (488, zt_bin (fun x y => x + y) 489), (489, zt_sld L xs 490), (490, zt_aload 0 491), (491, zt_iload 3 492), (492, zt_const (zI 2) 493), (493, zt_bin (fun x y => x + y) 494), (494, zt_sld L xs 495), (495, zt_call kd sp_X7_ends 3 498), (498, zt_aload 2 499), (499, zt_aload 0 500), (500, zt_iload 3 501), (501, zt_const (zI 1) 502), (502, zt_bin (fun x y => x + y) 503), (503, zt_sld L xs 504), (504, zt_aload 0 505), (505, zt_iload 3 506), (506, zt_const (zI 2) 507), (507, zt_bin (fun x y => x + y) 508), (508, zt_sld L xs 509), (509, zt_call kd sp_X8_ends 3 512), (512, zt_icmp (fun x y => x = y) (fun x y => ¬ x = y) 1070 515), (515, zt_const (zI 0) 516), (516, (fun _ _ _ _ => False))]
def cu_L12 : zCut := [(1070, [])]
set_option maxRecDepth 20000 in
theorem tk_L12 {p : Program} {l : Launch} {e : Env} {R : Room} {s : State} {m : MethodId} {args : Array Value} {below : List Frame} {meth : Method} {c : Code} {D : va_G} {cy : Nat → ClassId} {A : Nat → Prop} {ad : Nat × Nat → Nat} {bl : zBl} {ce so : Nat} {Qm : State → Prop} {b L : Nat} {xs : Nat → Int32} (C0 : zCtx p l e R s m args below meth c D cy A ad bl 4 ce so Qm RL cL_law (60 + 1)) (hX : va_X b L xs s s.heap) (hbl : b < s.heap.size) (hbA : ¬ A b) (hb31 : ∀ o, ad (31, o) = b) : ∀ q ∈ tb_L12 L xs (zkd bl), zOk p l e R s m args below meth c D cy A ad bl 4 ce so Qm q.1 q.2 := by
  obtain ⟨hx, hb, hml, hown, hts, hK, hD, hA0, hN, hE, ⟨hR1, hR2⟩, hc1, hc2⟩ := id C0
  unfold tb_L12
  refine List.forall_mem_cons.mpr ⟨ok_aload_n hx hb rfl dd_L_law_484, ?_⟩
  refine List.forall_mem_cons.mpr ⟨ok_aload_n hx hb rfl dd_L_law_485, ?_⟩
  refine List.forall_mem_cons.mpr ⟨ok_iload_n hx hb rfl dd_L_law_486, ?_⟩
  refine List.forall_mem_cons.mpr ⟨ok_iconst hx hb dd_L_law_487 (by decide), ?_⟩
  refine List.forall_mem_cons.mpr ⟨ok_iadd hx hb dd_L_law_488, ?_⟩
  refine List.forall_mem_cons.mpr ⟨ok_sld hx hb hX hbl hbA hb31 dd_L_law_489, ?_⟩
  refine List.forall_mem_cons.mpr ⟨ok_aload_n hx hb rfl dd_L_law_490, ?_⟩
  refine List.forall_mem_cons.mpr ⟨ok_iload_n hx hb rfl dd_L_law_491, ?_⟩
  refine List.forall_mem_cons.mpr ⟨ok_iconst hx hb dd_L_law_492 (by decide), ?_⟩
  refine List.forall_mem_cons.mpr ⟨ok_iadd hx hb dd_L_law_493, ?_⟩
  refine List.forall_mem_cons.mpr ⟨ok_sld hx hb hX hbl hbA hb31 dd_L_law_494, ?_⟩
  refine List.forall_mem_cons.mpr ⟨ok_callV (n := 2) zc_X7 rv_X7_ends C0 (ms_X7_ends 60 (by decide)) (by decide) wd_586 wd_583 wd_584 wd_585 wd_100 ⟨rfl, by decide +kernel, by decide +kernel, by decide +kernel⟩ dd_L_law_495, ?_⟩
  refine List.forall_mem_cons.mpr ⟨ok_aload_n hx hb rfl dd_L_law_498, ?_⟩
  refine List.forall_mem_cons.mpr ⟨ok_aload_n hx hb rfl dd_L_law_499, ?_⟩
  refine List.forall_mem_cons.mpr ⟨ok_iload_n hx hb rfl dd_L_law_500, ?_⟩
  refine List.forall_mem_cons.mpr ⟨ok_iconst hx hb dd_L_law_501 (by decide), ?_⟩
  refine List.forall_mem_cons.mpr ⟨ok_iadd hx hb dd_L_law_502, ?_⟩
  refine List.forall_mem_cons.mpr ⟨ok_sld hx hb hX hbl hbA hb31 dd_L_law_503, ?_⟩
  refine List.forall_mem_cons.mpr ⟨ok_aload_n hx hb rfl dd_L_law_504, ?_⟩
  refine List.forall_mem_cons.mpr ⟨ok_iload_n hx hb rfl dd_L_law_505, ?_⟩
  refine List.forall_mem_cons.mpr ⟨ok_iconst hx hb dd_L_law_506 (by decide), ?_⟩
  refine List.forall_mem_cons.mpr ⟨ok_iadd hx hb dd_L_law_507, ?_⟩
  refine List.forall_mem_cons.mpr ⟨ok_sld hx hb hX hbl hbA hb31 dd_L_law_508, ?_⟩
  refine List.forall_mem_cons.mpr ⟨ok_callV (n := 2) zc_X8 rv_X8_ends C0 (ms_X8_ends 60 (by decide)) (by decide) wd_1032 wd_1029 wd_1030 wd_1031 wd_107 ⟨rfl, by decide +kernel, by decide +kernel, by decide +kernel⟩ dd_L_law_509, ?_⟩
  refine List.forall_mem_cons.mpr ⟨ok_icmp_eq hx hb dd_L_law_512 (by decide), ?_⟩
  refine List.forall_mem_cons.mpr ⟨ok_iconst hx hb dd_L_law_515 (by decide), ?_⟩
  refine List.forall_mem_cons.mpr ⟨ok_dead, ?_⟩
  exact fun _ h => absurd h List.not_mem_nil
set_option maxRecDepth 100000 in
theorem vc_L12_484 {L : Nat} {xs : Nat → Int32} {kd : Nat → Nat} {X : zX} (hX : ∀ (n pc : Nat) (ls : zLS) (st : List zV) (M : zM), zrun (tb_L12 L xs kd) cu_L12 n X pc ls st M → X pc ls st M) {i : Int32} {M : zM} (hk0 : kd 9 = 8) (hk1 : kd 0 = 1) (h : (vp_in (i + (1 : Int32)) L) ∧ (vp_in (i + (2 : Int32)) L) ∧ (KdX kd) ∧ ∃ s1 : St, (RpX kd M s1) ∧ ∀ v1 : Int32, (er_ends s1 (xs (i + (1 : Int32)).toNatClampNeg).toInt (xs (i + (2 : Int32)).toNatClampNeg).toInt v1.toInt) → ∀ M1 : zM, (RpX kd M1 (es_ends s1 (xs (i + (1 : Int32)).toNatClampNeg).toInt (xs (i + (2 : Int32)).toNatClampNeg).toInt)) → (fr9 M M1) → (vp_in (i + (1 : Int32)) L) ∧ (vp_in (i + (2 : Int32)) L) ∧ ∃ s2 : St, (RpM M1 s2) ∧ ∀ v2 : Int32, (er_ends s2 (xs (i + (1 : Int32)).toNatClampNeg).toInt (xs (i + (2 : Int32)).toNatClampNeg).toInt v2.toInt) → ∀ M2 : zM, (RpM M2 (es_ends s2 (xs (i + (1 : Int32)).toNatClampNeg).toInt (xs (i + (2 : Int32)).toNatClampNeg).toInt)) → (fr0 M1 M2) → ((v1 = v2) → X 1070 [some (zR 31 0), some (zR 0 0), some (zR 9 0), some (zI (i))] [] M2) ∧ ((¬ v1 = v2) → False)) : X 484 [some (zR 31 0), some (zR 0 0), some (zR 9 0), some (zI (i))] [] M := hX 28 484 _ [] M (show (31 = 31) ∧ (vp_in (i + (1 : Int32)) L) ∧ (31 = 31) ∧ (vp_in (i + (2 : Int32)) L) ∧ (kd 0 = 1) ∧ (KdX kd) ∧ ∃ s1 : St, (RpX kd M s1) ∧ ∀ v1 : Int32, (er_ends s1 (xs (i + (1 : Int32)).toNatClampNeg).toInt (xs (i + (2 : Int32)).toNatClampNeg).toInt v1.toInt) → ∀ M1 : zM, (RpX kd M1 (es_ends s1 (xs (i + (1 : Int32)).toNatClampNeg).toInt (xs (i + (2 : Int32)).toNatClampNeg).toInt)) → (fr9 M M1) → (31 = 31) ∧ (vp_in (i + (1 : Int32)) L) ∧ (31 = 31) ∧ (vp_in (i + (2 : Int32)) L) ∧ (kd 9 = 8) ∧ ∃ s2 : St, (RpM M1 s2) ∧ ∀ v2 : Int32, (er_ends s2 (xs (i + (1 : Int32)).toNatClampNeg).toInt (xs (i + (2 : Int32)).toNatClampNeg).toInt v2.toInt) → ∀ M2 : zM, (RpM M2 (es_ends s2 (xs (i + (1 : Int32)).toNatClampNeg).toInt (xs (i + (2 : Int32)).toNatClampNeg).toInt)) → (fr0 M1 M2) → ((v1 = v2) → X 1070 [some (zR 31 0), some (zR 0 0), some (zR 9 0), some (zI (i))] [] M2) ∧ ((¬ v1 = v2) → False) from ⟨rfl, ⟨h.1, have h := h.2; ⟨rfl, ⟨h.1, have h := h.2; ⟨hk1, ⟨h.1, have h := h.2; h.elim (fun s1 h => ⟨s1, ⟨h.1, have h := h.2; fun v1 => have h := h v1; fun q => have h := h q; fun M1 => have h := h M1; fun q => have h := h q; fun q => have h := h q; ⟨rfl, ⟨h.1, have h := h.2; ⟨rfl, ⟨h.1, have h := h.2; ⟨hk0, h.elim (fun s2 h => ⟨s2, ⟨h.1, have h := h.2; fun v2 => have h := h v2; fun q => have h := h q; fun M2 => have h := h M2; fun q => have h := h q; fun q => have h := h q; ⟨fun q => have h := h.1 q; h, fun q => have h := h.2 q; h⟩⟩⟩)⟩⟩⟩⟩⟩⟩⟩)⟩⟩⟩⟩⟩⟩)
