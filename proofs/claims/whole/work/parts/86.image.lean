theorem dd_X7_image_0 : decode cX7_image 0 = .ok (.iload_n 1, 1) := by decide +kernel
theorem dd_X7_image_1 : decode cX7_image 1 = .ok (.invokestatic 239, 3) := by decide +kernel
theorem dd_X7_image_4 : decode cX7_image 4 = .ok (.ifCond .ne 10, 3) := by decide +kernel
theorem dd_X7_image_7 : decode cX7_image 7 = .ok (.aload_n 0, 1) := by decide +kernel
theorem dd_X7_image_8 : decode cX7_image 8 = .ok (.bipush (-2), 2) := by decide +kernel
theorem dd_X7_image_10 : decode cX7_image 10 = .ok (.invokevirtual 73, 3) := by decide +kernel
theorem dd_X7_image_13 : decode cX7_image 13 = .ok (.ireturn, 1) := by decide +kernel
theorem dd_X7_image_14 : decode cX7_image 14 = .ok (.aload_n 0, 1) := by decide +kernel
theorem dd_X7_image_15 : decode cX7_image 15 = .ok (.getfield 16, 3) := by decide +kernel
theorem dd_X7_image_18 : decode cX7_image 18 = .ok (.iload_n 1, 1) := by decide +kernel
theorem dd_X7_image_19 : decode cX7_image 19 = .ok (.aaload, 1) := by decide +kernel
theorem dd_X7_image_20 : decode cX7_image 20 = .ok (.astore_n 2, 1) := by decide +kernel
theorem dd_X7_image_21 : decode cX7_image 21 = .ok (.aload_n 2, 1) := by decide +kernel
theorem dd_X7_image_22 : decode cX7_image 22 = .ok (.ifnonnull 18, 3) := by decide +kernel
theorem dd_X7_image_25 : decode cX7_image 25 = .ok (.new 9, 3) := by decide +kernel
theorem dd_X7_image_28 : decode cX7_image 28 = .ok (.dup, 1) := by decide +kernel
theorem dd_X7_image_29 : decode cX7_image 29 = .ok (.invokespecial 11, 3) := by decide +kernel
theorem dd_X7_image_32 : decode cX7_image 32 = .ok (.astore_n 2, 1) := by decide +kernel
theorem dd_X7_image_33 : decode cX7_image 33 = .ok (.aload_n 0, 1) := by decide +kernel
theorem dd_X7_image_34 : decode cX7_image 34 = .ok (.getfield 16, 3) := by decide +kernel
theorem dd_X7_image_37 : decode cX7_image 37 = .ok (.iload_n 1, 1) := by decide +kernel
theorem dd_X7_image_38 : decode cX7_image 38 = .ok (.aload_n 2, 1) := by decide +kernel
theorem dd_X7_image_39 : decode cX7_image 39 = .ok (.aastore, 1) := by decide +kernel
theorem dd_X7_image_40 : decode cX7_image 40 = .ok (.aload_n 2, 1) := by decide +kernel
theorem dd_X7_image_41 : decode cX7_image 41 = .ok (.aload_n 0, 1) := by decide +kernel
theorem dd_X7_image_42 : decode cX7_image 42 = .ok (.getfield 12, 3) := by decide +kernel
theorem dd_X7_image_45 : decode cX7_image 45 = .ok (.invokevirtual 242, 3) := by decide +kernel
theorem dd_X7_image_48 : decode cX7_image 48 = .ok (.iconst 1, 1) := by decide +kernel
theorem dd_X7_image_49 : decode cX7_image 49 = .ok (.ireturn, 1) := by decide +kernel
def tb_X7_image (kd : Nat → Nat) : zTab := [(0, zt_iload 1 1), (1, zt_call kd sp_X7_isImage 1 4), (4, zt_if (fun x => ¬ x = 0) (fun x => x = 0) 14 7), (7, zt_aload 0 8), (8, zt_const (zI (-2)) 10), (10, zt_call kd sp_X7_refuse 2 13), (14, zt_aload 0 15), (15, zt_getR kd 1 0 1 18), (18, zt_iload 1 19), (19, zt_aald kd 20), (20, zt_astore 2 21), (21, zt_aload 2 22), (22, zt_ifnn 40 25), (40, zt_aload 2 41), (41, zt_aload 0 42), (42, zt_getR kd 1 1 0 45), (45, zt_call kd sp_X2_take 2 48), (48, zt_const (zI 1) 49)]
def cu_X7_image : zCut := [(13, [2]), (25, [2]), (40, []), (49, [2])]
def d_X7_image : Nat := 3
set_option maxRecDepth 20000 in
theorem tk_X7_image {p : Program} {l : Launch} {e : Env} {R : Room} {s : State} {m : MethodId} {args : Array Value} {below : List Frame} {meth : Method} {c : Code} {D : va_G} {cy : Nat → ClassId} {A : Nat → Prop} {ad : Nat × Nat → Nat} {bl : zBl} {ce so : Nat} {Qm : State → Prop} (C0 : zCtx p l e R s m args below meth c D cy A ad bl 3 ce so Qm RX7 cX7_image (2 + 1)) : ∀ q ∈ tb_X7_image (zkd bl), zOk p l e R s m args below meth c D cy A ad bl 3 ce so Qm q.1 q.2 := by
  obtain ⟨hx, hb, hml, hown, hts, hK, hD, hA0, hN, hE, ⟨hR1, hR2⟩, hc1, hc2⟩ := id C0
  unfold tb_X7_image
  refine List.forall_mem_cons.mpr ⟨ok_iload_n hx hb rfl dd_X7_image_0, ?_⟩
  refine List.forall_mem_cons.mpr ⟨ok_callS (n := 1) C0 (ms_X7_isImage 2 (by decide)) (by decide) wd_779 wd_777 wd_778 wd_100 ⟨by decide +kernel, by decide +kernel, by decide +kernel⟩ dd_X7_image_1, ?_⟩
  refine List.forall_mem_cons.mpr ⟨ok_if_ne hx hb dd_X7_image_4 (by decide), ?_⟩
  refine List.forall_mem_cons.mpr ⟨ok_aload_n hx hb rfl dd_X7_image_7, ?_⟩
  refine List.forall_mem_cons.mpr ⟨ok_bipush hx hb dd_X7_image_8 (by decide), ?_⟩
  refine List.forall_mem_cons.mpr ⟨ok_callV (n := 1) zc_X7 rv_X7_refuse C0 (ms_X7_refuse 2 (by decide)) (by decide) wd_328 wd_325 wd_327 wd_3 wd_100 ⟨rfl, by decide +kernel, by decide +kernel, by decide +kernel⟩ dd_X7_image_10, ?_⟩
  refine List.forall_mem_cons.mpr ⟨ok_aload_n hx hb rfl dd_X7_image_14, ?_⟩
  refine List.forall_mem_cons.mpr ⟨ok_getR (j := 1) hx hb hts zi_X7 hown hK zc_X7 (by decide) rfl (fun t fl h => by cases h; rfl) (hts _ wd_272) dd_X7_image_15, ?_⟩
  refine List.forall_mem_cons.mpr ⟨ok_iload_n hx hb rfl dd_X7_image_18, ?_⟩
  refine List.forall_mem_cons.mpr ⟨ok_aald hx hb hK dd_X7_image_19, ?_⟩
  refine List.forall_mem_cons.mpr ⟨ok_astore_n hx hb rfl dd_X7_image_20, ?_⟩
  refine List.forall_mem_cons.mpr ⟨ok_aload_n hx hb rfl dd_X7_image_21, ?_⟩
  refine List.forall_mem_cons.mpr ⟨ok_ifnonnull hx hb dd_X7_image_22 (by decide), ?_⟩
  refine List.forall_mem_cons.mpr ⟨ok_aload_n hx hb rfl dd_X7_image_40, ?_⟩
  refine List.forall_mem_cons.mpr ⟨ok_aload_n hx hb rfl dd_X7_image_41, ?_⟩
  refine List.forall_mem_cons.mpr ⟨ok_getR (j := 0) hx hb hts zi_X7 hown hK zc_X7 (by decide) rfl (fun t fl h => by cases h; rfl) (hts _ wd_271) dd_X7_image_42, ?_⟩
  refine List.forall_mem_cons.mpr ⟨ok_callVN (n := 1) zc_X2 rv_X2_take C0 (ms_X2_take 2 (by decide)) (by decide) wd_783 nd_780 wd_782 wd_56 wd_101 ⟨by decide +kernel, by decide +kernel, by decide +kernel⟩ dd_X7_image_45, ?_⟩
  refine List.forall_mem_cons.mpr ⟨ok_iconst hx hb dd_X7_image_48 (by decide), ?_⟩
  exact fun _ h => absurd h List.not_mem_nil
set_option maxRecDepth 100000 in
theorem vc_X7_image_0 {kd : Nat → Nat} {X : zX} (hX : ∀ (n pc : Nat) (ls : zLS) (st : List zV) (M : zM), zrun (tb_X7_image kd) cu_X7_image n X pc ls st M → X pc ls st M) {j : Int32} {M : zM} (hk0 : kd 0 = 1) (h : ∀ v1 : Int32, (v1 = zp (inn j.toInt 0 1)) → ((¬ v1 = 0) → (vp_in j 2) ∧ ((kd (10 + 4 * (j).toNatClampNeg) = 2) → X 40 [some (zR 0 0), some (zI (j)), some (zR (10 + 4 * (j).toNatClampNeg) 0)] [] M) ∧ ((¬ kd (10 + 4 * (j).toNatClampNeg) = 2) → X 25 [some (zR 0 0), some (zI (j)), none] [] M)) ∧ ((v1 = 0) → ∃ s2 : St, (RpX kd M s2) ∧ ∃ k2 : Nat, (k2 < 3 ∧ (-2 : Int32).toInt = -2 - (k2 : Int)) ∧ ∀ v2 : Int32, (v2 = (-2 : Int32)) → ∀ M2 : zM, (RpX kd M2 (sRf s2 k2)) → (fr9 M M2) → X 13 [some (zR 0 0), some (zI (j)), none] [zI (v2)] M2)) : X 0 [some (zR 0 0), some (zI (j)), none] [] M := hX 12 0 _ [] M (show ∀ v1 : Int32, (v1 = zp (inn j.toInt 0 1)) → ((¬ v1 = 0) → (kd 0 = 1) ∧ (kd 0 = 1) ∧ (1 = 1) ∧ (vp_in j 2) ∧ ((kd (10 + 4 * (j).toNatClampNeg) = 2) → X 40 [some (zR 0 0), some (zI (j)), some (zR (10 + 4 * (j).toNatClampNeg) 0)] [] M) ∧ ((¬ kd (10 + 4 * (j).toNatClampNeg) = 2) → X 25 [some (zR 0 0), some (zI (j)), none] [] M)) ∧ ((v1 = 0) → (kd 0 = 1) ∧ ∃ s2 : St, (RpX kd M s2) ∧ ∃ k2 : Nat, (k2 < 3 ∧ (-2 : Int32).toInt = -2 - (k2 : Int)) ∧ ∀ v2 : Int32, (v2 = (-2 : Int32)) → ∀ M2 : zM, (RpX kd M2 (sRf s2 k2)) → (fr9 M M2) → X 13 [some (zR 0 0), some (zI (j)), none] [zI (v2)] M2) from fun v1 => have h := h v1; fun q => have h := h q; ⟨fun q => have h := h.1 q; ⟨hk0, ⟨hk0, ⟨rfl, ⟨h.1, have h := h.2; ⟨fun q => have h := h.1 q; h, fun q => have h := h.2 q; h⟩⟩⟩⟩⟩, fun q => have h := h.2 q; ⟨hk0, h.elim (fun s2 h => ⟨s2, ⟨h.1, have h := h.2; h.elim (fun k2 h => ⟨k2, ⟨h.1, have h := h.2; fun v2 => have h := h v2; fun q => have h := h q; fun M2 => have h := h M2; fun q => have h := h q; fun q => have h := h q; h⟩⟩)⟩⟩)⟩⟩)
set_option maxRecDepth 100000 in
theorem vc_X7_image_40 {kd : Nat → Nat} {X : zX} (hX : ∀ (n pc : Nat) (ls : zLS) (st : List zV) (M : zM), zrun (tb_X7_image kd) cu_X7_image n X pc ls st M → X pc ls st M) {j : Int32} {b : Nat} {M : zM} (hk0 : kd (1 + 3) = 5) (hk1 : kd (1 + 2) = 4) (hk2 : kd (1 + 1) = 3) (hk3 : kd 1 = 2) (hk4 : kd (b + 3) = 5) (hk5 : kd (b + 2) = 4) (hk6 : kd (b + 1) = 3) (hk7 : kd b = 2) (hk8 : kd 0 = 1) (h : (b + 3 < 1 ∨ 1 + 3 < b) ∧ ∃ a1 : Sk, (RpS (M.1 (1 + 1)) a1) ∧ ∃ L1 : List Int, (RpT (M.1 (1 + 2)) L1) ∧ ∃ Q1 : List Se, (RpL (M.1 (1 + 3)) Q1) ∧ ∀ S11 : zB, (RpS S11 a1) → ∀ S21 : zB, (RpT S21 L1) → ∀ S31 : zB, (RpL S31 Q1) → ∀ M1 : zM, (M1 = zbs (zbs (zbs M (b + 1) S11) (b + 2) S21) (b + 3) S31) → X 49 [some (zR 0 0), some (zI (j)), none] [zI ((1 : Int32))] M1) : X 40 [some (zR 0 0), some (zI (j)), some (zR b 0)] [] M := hX 7 40 _ [] M (show (kd 0 = 1) ∧ (kd b = 2) ∧ (kd (b + 1) = 3) ∧ (kd (b + 2) = 4) ∧ (kd (b + 3) = 5) ∧ (kd 1 = 2) ∧ (kd (1 + 1) = 3) ∧ (kd (1 + 2) = 4) ∧ (kd (1 + 3) = 5) ∧ (b + 3 < 1 ∨ 1 + 3 < b) ∧ ∃ a1 : Sk, (RpS (M.1 (1 + 1)) a1) ∧ ∃ L1 : List Int, (RpT (M.1 (1 + 2)) L1) ∧ ∃ Q1 : List Se, (RpL (M.1 (1 + 3)) Q1) ∧ ∀ S11 : zB, (RpS S11 a1) → ∀ S21 : zB, (RpT S21 L1) → ∀ S31 : zB, (RpL S31 Q1) → ∀ M1 : zM, (M1 = zbs (zbs (zbs M (b + 1) S11) (b + 2) S21) (b + 3) S31) → X 49 [some (zR 0 0), some (zI (j)), none] [zI ((1 : Int32))] M1 from ⟨hk8, ⟨hk7, ⟨hk6, ⟨hk5, ⟨hk4, ⟨hk3, ⟨hk2, ⟨hk1, ⟨hk0, ⟨h.1, have h := h.2; h.elim (fun a1 h => ⟨a1, ⟨h.1, have h := h.2; h.elim (fun L1 h => ⟨L1, ⟨h.1, have h := h.2; h.elim (fun Q1 h => ⟨Q1, ⟨h.1, have h := h.2; fun S11 => have h := h S11; fun q => have h := h q; fun S21 => have h := h S21; fun q => have h := h q; fun S31 => have h := h S31; fun q => have h := h q; fun M1 => have h := h M1; fun q => have h := h q; h⟩⟩)⟩⟩)⟩⟩)⟩⟩⟩⟩⟩⟩⟩⟩⟩⟩)
