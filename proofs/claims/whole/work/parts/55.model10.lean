
def ev_image (s : St) (j : Int) : Int × St := if inn j 0 1 then (1, (s.1, fun k => if k = j.toNat then some s.1 else s.2.1 k, s.2.2)) else (-2, sRf s 0)
def sp_X8_from : zSpec := fun kd as M K => match as with
  | [.inr (.inr (.inl (9, 0))), .inl j] => (kd 9 = 8) ∧ ∃ s : St, (RpM M s) ∧ ∀ v : Int32, (v.toInt = (ev_from s j.toInt).1) → ∀ M' : zM, (RpM M' (ev_from s j.toInt).2) → (fr0 M M') → K (some (.inl v)) M'
  | _ => False
theorem rv_X8_from : zrv sp_X8_from 8 1 := by
  intro kd as M K h
  unfold sp_X8_from at h
  split at h
  · exact ⟨_, _, rfl, h.1⟩
  · exact h.elim
theorem dd_X8_from_0 : decode cX8_from 0 = .ok (.iload_n 1, 1) := by decide +kernel
theorem dd_X8_from_1 : decode cX8_from 1 = .ok (.i2l, 1) := by decide +kernel
theorem dd_X8_from_2 : decode cX8_from 2 = .ok (.lconst 0, 1) := by decide +kernel
theorem dd_X8_from_3 : decode cX8_from 3 = .ok (.lconst 1, 1) := by decide +kernel
theorem dd_X8_from_4 : decode cX8_from 4 = .ok (.invokestatic 54, 3) := by decide +kernel
theorem dd_X8_from_7 : decode cX8_from 7 = .ok (.ifCond .ne 10, 3) := by decide +kernel
theorem dd_X8_from_10 : decode cX8_from 10 = .ok (.aload_n 0, 1) := by decide +kernel
theorem dd_X8_from_11 : decode cX8_from 11 = .ok (.bipush (-2), 2) := by decide +kernel
theorem dd_X8_from_13 : decode cX8_from 13 = .ok (.invokevirtual 81, 3) := by decide +kernel
theorem dd_X8_from_16 : decode cX8_from 16 = .ok (.ireturn, 1) := by decide +kernel
theorem dd_X8_from_17 : decode cX8_from 17 = .ok (.aload_n 0, 1) := by decide +kernel
theorem dd_X8_from_18 : decode cX8_from 18 = .ok (.getfield 16, 3) := by decide +kernel
theorem dd_X8_from_21 : decode cX8_from 21 = .ok (.iload_n 1, 1) := by decide +kernel
theorem dd_X8_from_22 : decode cX8_from 22 = .ok (.baload, 1) := by decide +kernel
theorem dd_X8_from_23 : decode cX8_from 23 = .ok (.ifCond .ne 8, 3) := by decide +kernel
theorem dd_X8_from_26 : decode cX8_from 26 = .ok (.aload_n 0, 1) := by decide +kernel
theorem dd_X8_from_27 : decode cX8_from 27 = .ok (.invokevirtual 85, 3) := by decide +kernel
theorem dd_X8_from_30 : decode cX8_from 30 = .ok (.ireturn, 1) := by decide +kernel
theorem dd_X8_from_31 : decode cX8_from 31 = .ok (.iconst 0, 1) := by decide +kernel
theorem dd_X8_from_32 : decode cX8_from 32 = .ok (.istore_n 2, 1) := by decide +kernel
theorem dd_X8_from_33 : decode cX8_from 33 = .ok (.iload_n 2, 1) := by decide +kernel
theorem dd_X8_from_34 : decode cX8_from 34 = .ok (.sipush 915, 3) := by decide +kernel
theorem dd_X8_from_37 : decode cX8_from 37 = .ok (.if_icmp .ge 27, 3) := by decide +kernel
theorem dd_X8_from_40 : decode cX8_from 40 = .ok (.aload_n 0, 1) := by decide +kernel
theorem dd_X8_from_41 : decode cX8_from 41 = .ok (.getfield 7, 3) := by decide +kernel
theorem dd_X8_from_44 : decode cX8_from 44 = .ok (.iload_n 2, 1) := by decide +kernel
theorem dd_X8_from_45 : decode cX8_from 45 = .ok (.aload_n 0, 1) := by decide +kernel
theorem dd_X8_from_46 : decode cX8_from 46 = .ok (.getfield 13, 3) := by decide +kernel
theorem dd_X8_from_49 : decode cX8_from 49 = .ok (.sipush 915, 3) := by decide +kernel
theorem dd_X8_from_52 : decode cX8_from 52 = .ok (.iload_n 1, 1) := by decide +kernel
theorem dd_X8_from_53 : decode cX8_from 53 = .ok (.imul, 1) := by decide +kernel
theorem dd_X8_from_54 : decode cX8_from 54 = .ok (.iload_n 2, 1) := by decide +kernel
theorem dd_X8_from_55 : decode cX8_from 55 = .ok (.iadd, 1) := by decide +kernel
theorem dd_X8_from_56 : decode cX8_from 56 = .ok (.iaload, 1) := by decide +kernel
theorem dd_X8_from_57 : decode cX8_from 57 = .ok (.iastore, 1) := by decide +kernel
theorem dd_X8_from_58 : decode cX8_from 58 = .ok (.iinc 2 1, 3) := by decide +kernel
theorem dd_X8_from_61 : decode cX8_from 61 = .ok (.goto (-28), 3) := by decide +kernel
theorem dd_X8_from_64 : decode cX8_from 64 = .ok (.iconst 1, 1) := by decide +kernel
theorem dd_X8_from_65 : decode cX8_from 65 = .ok (.ireturn, 1) := by decide +kernel
def tb_X8_from (kd : Nat → Nat) (K : zK) : zTab := [(0, zt_iload 1 1), (1, zt_un (fun x => zL x.toInt64) 2), (2, zt_const (zL 0) 3), (3, zt_const (zL 1) 4), (4, zt_call kd sp_X8_in 3 7), (7, zt_if (fun x => ¬ x = 0) (fun x => x = 0) 17 10), (10, zt_aload 0 11), (11, zt_const (zI (-2)) 13), (13, zt_call kd sp_X8_bad 2 16), (16, zt_iret K), (17, zt_aload 0 18), (18, zt_getR kd 8 0 3 21), (21, zt_iload 1 22), (22, zt_ald kd 2 23), (23, zt_if (fun x => ¬ x = 0) (fun x => x = 0) 31 26), (26, zt_aload 0 27), (27, zt_call kd sp_X8_no 1 30), (30, zt_iret K), (31, zt_const (zI 0) 32), (32, zt_istore 2 33), (33, zt_iload 2 34), (34, zt_const (zI 915) 37), (37, zt_icmp (fun x y => y ≤ x) (fun x y => ¬ y ≤ x) 64 40), (40, zt_aload 0 41), (41, zt_getR kd 8 0 1 44), (44, zt_iload 2 45), (45, zt_aload 0 46), (46, zt_getR kd 8 0 2 49), (49, zt_const (zI 915) 52), (52, zt_iload 1 53), (53, zt_bin (fun x y => x * y) 54), (54, zt_iload 2 55), (55, zt_bin (fun x y => x + y) 56), (56, zt_ald kd 0 57), (57, zt_ast kd 0 58), (58, zt_iinc 2 1 61), (61, zt_goto 33), (64, zt_const (zI 1) 65), (65, zt_iret K)]
set_option maxRecDepth 20000 in
theorem tk_X8_from (d : Nat) (h_X8_in : zMS 1 yX8_in cX8_in 6 (some .boolean) sp_X8_in) (h_X8_bad : zMS 1 yX8_bad cX8_bad 2 (some .int) sp_X8_bad) (h_X8_no : zMS 1 yX8_no cX8_no 1 (some .int) sp_X8_no) : zTrue RX8 cX8_from 3 (some .int) (d + 2) (fun kd K => tb_X8_from kd K) := by
  intro p l e R s m args below meth c D cy A ad bl Qm K C0 hr hlocks hQ
  obtain ⟨hx, hb, hml, hown, hts, hK, hD, hA0, hN, hE, ⟨hR1, hR2⟩, hc1, hc2⟩ := id C0
  unfold tb_X8_from
  refine List.forall_mem_cons.mpr ⟨ok_iload_n hx hb rfl dd_X8_from_0, ?_⟩
  refine List.forall_mem_cons.mpr ⟨ok_i2l hx hb dd_X8_from_1, ?_⟩
  refine List.forall_mem_cons.mpr ⟨ok_lconst hx hb dd_X8_from_2 (by decide), ?_⟩
  refine List.forall_mem_cons.mpr ⟨ok_lconst hx hb dd_X8_from_3 (by decide), ?_⟩
  refine List.forall_mem_cons.mpr ⟨ok_callS (n := 3) C0 (h_X8_in (d + 1) (by omega)) (by decide) wd_928 wd_926 wd_927 wd_107 ⟨by decide +kernel, by decide +kernel, by decide +kernel⟩ dd_X8_from_4, ?_⟩
  refine List.forall_mem_cons.mpr ⟨ok_if_ne hx hb dd_X8_from_7 (by decide), ?_⟩
  refine List.forall_mem_cons.mpr ⟨ok_aload_n hx hb rfl dd_X8_from_10, ?_⟩
  refine List.forall_mem_cons.mpr ⟨ok_bipush hx hb dd_X8_from_11 (by decide), ?_⟩
  refine List.forall_mem_cons.mpr ⟨ok_callV (n := 1) zc_X8 rv_X8_bad C0 (h_X8_bad (d + 1) (by omega)) (by decide) wd_936 wd_933 wd_935 wd_62 wd_107 ⟨rfl, by decide +kernel, by decide +kernel, by decide +kernel⟩ dd_X8_from_13, ?_⟩
  refine List.forall_mem_cons.mpr ⟨ok_iret hx hb hr hlocks hQ dd_X8_from_16, ?_⟩
  refine List.forall_mem_cons.mpr ⟨ok_aload_n hx hb rfl dd_X8_from_17, ?_⟩
  refine List.forall_mem_cons.mpr ⟨ok_getR (j := 2) hx hb hts zi_X8 hown hK zc_X8 (by decide) rfl (fun t fl h => by cases h; rfl) (hts _ wd_842) dd_X8_from_18, ?_⟩
  refine List.forall_mem_cons.mpr ⟨ok_iload_n hx hb rfl dd_X8_from_21, ?_⟩
  refine List.forall_mem_cons.mpr ⟨ok_ald (ty := 2) rfl hx hb hK (Or.inr (Or.inr ⟨rfl, rfl, dd_X8_from_22⟩)), ?_⟩
  refine List.forall_mem_cons.mpr ⟨ok_if_ne hx hb dd_X8_from_23 (by decide), ?_⟩
  refine List.forall_mem_cons.mpr ⟨ok_aload_n hx hb rfl dd_X8_from_26, ?_⟩
  refine List.forall_mem_cons.mpr ⟨ok_callV (n := 0) zc_X8 rv_X8_no C0 (h_X8_no (d + 1) (by omega)) (by decide) wd_946 wd_943 wd_945 wd_63 wd_107 ⟨rfl, by decide +kernel, by decide +kernel, by decide +kernel⟩ dd_X8_from_27, ?_⟩
  refine List.forall_mem_cons.mpr ⟨ok_iret hx hb hr hlocks hQ dd_X8_from_30, ?_⟩
  refine List.forall_mem_cons.mpr ⟨ok_iconst hx hb dd_X8_from_31 (by decide), ?_⟩
  refine List.forall_mem_cons.mpr ⟨ok_istore_n hx hb rfl dd_X8_from_32, ?_⟩
  refine List.forall_mem_cons.mpr ⟨ok_iload_n hx hb rfl dd_X8_from_33, ?_⟩
  refine List.forall_mem_cons.mpr ⟨ok_sipush hx hb dd_X8_from_34 (by decide), ?_⟩
  refine List.forall_mem_cons.mpr ⟨ok_icmp_ge hx hb dd_X8_from_37 (by decide), ?_⟩
  refine List.forall_mem_cons.mpr ⟨ok_aload_n hx hb rfl dd_X8_from_40, ?_⟩
  refine List.forall_mem_cons.mpr ⟨ok_getR (j := 0) hx hb hts zi_X8 hown hK zc_X8 (by decide) rfl (fun t fl h => by cases h; rfl) (hts _ wd_840) dd_X8_from_41, ?_⟩
  refine List.forall_mem_cons.mpr ⟨ok_iload_n hx hb rfl dd_X8_from_44, ?_⟩
  refine List.forall_mem_cons.mpr ⟨ok_aload_n hx hb rfl dd_X8_from_45, ?_⟩
  refine List.forall_mem_cons.mpr ⟨ok_getR (j := 1) hx hb hts zi_X8 hown hK zc_X8 (by decide) rfl (fun t fl h => by cases h; rfl) (hts _ wd_841) dd_X8_from_46, ?_⟩
  refine List.forall_mem_cons.mpr ⟨ok_sipush hx hb dd_X8_from_49 (by decide), ?_⟩
  refine List.forall_mem_cons.mpr ⟨ok_iload_n hx hb rfl dd_X8_from_52, ?_⟩
  refine List.forall_mem_cons.mpr ⟨ok_imul hx hb dd_X8_from_53, ?_⟩
  refine List.forall_mem_cons.mpr ⟨ok_iload_n hx hb rfl dd_X8_from_54, ?_⟩
  refine List.forall_mem_cons.mpr ⟨ok_iadd hx hb dd_X8_from_55, ?_⟩
  refine List.forall_mem_cons.mpr ⟨ok_ald (ty := 0) rfl hx hb hK (Or.inl ⟨rfl, rfl, dd_X8_from_56⟩), ?_⟩
  refine List.forall_mem_cons.mpr ⟨ok_ast (ty := 0) rfl hx hb hK hD (Or.inl ⟨rfl, rfl, dd_X8_from_57⟩), ?_⟩
  refine List.forall_mem_cons.mpr ⟨ok_iinc hx hb dd_X8_from_58 (by decide), ?_⟩
  refine List.forall_mem_cons.mpr ⟨ok_goto hx hb dd_X8_from_61 (by decide), ?_⟩
  refine List.forall_mem_cons.mpr ⟨ok_iconst hx hb dd_X8_from_64 (by decide), ?_⟩
  refine List.forall_mem_cons.mpr ⟨ok_iret hx hb hr hlocks hQ dd_X8_from_65, ?_⟩
  exact fun _ h => absurd h List.not_mem_nil
set_option maxRecDepth 100000 in
theorem vc_X8_from_0 {kd : Nat → Nat} {K : zK} {X : zX} (hX : ∀ (n pc : Nat) (ls : zLS) (st : List zV) (M : zM), zrun (tb_X8_from kd K) [(33, [])] n X pc ls st M → X pc ls st M) {j : Int32} {M : zM} (hk0 : kd 9 = 8) (h : ∀ v1 : Int32, (v1 = zp ((0 : Int64).toInt ≤ j.toInt64.toInt ∧ j.toInt64.toInt ≤ (1 : Int64).toInt)) → ((¬ v1 = 0) → (zin (kd 9) 3 2 j) ∧ ((¬ (M.1 9 3 (j).toNatClampNeg) = 0) → X 33 [some (zR 9 0), some (zI (j)), some (zI ((0 : Int32)))] [] M) ∧ (((M.1 9 3 (j).toNatClampNeg) = 0) → ∀ v2 : Int32, (v2.toInt = -3) → ∀ M2 : zM, (M2 = zmw M 9 4 (upd (M.1 9 4) 1 (M.1 9 4 1 + 1))) → K (some (zI (v2))) M2)) ∧ ((v1 = 0) → ∀ v3 : Int32, (v3 = (-2 : Int32)) → ∀ M3 : zM, (M3 = zmw M 9 4 (upd (M.1 9 4) 0 (M.1 9 4 0 + 1))) → K (some (zI (v3))) M3)) : X 0 [some (zR 9 0), some (zI (j)), none] [] M := hX 15 0 _ [] M (show ∀ v1 : Int32, (v1 = zp ((0 : Int64).toInt ≤ j.toInt64.toInt ∧ j.toInt64.toInt ≤ (1 : Int64).toInt)) → ((¬ v1 = 0) → (kd 9 = 8) ∧ (zin (kd 9) 3 2 j) ∧ ((¬ (M.1 9 3 (j).toNatClampNeg) = 0) → X 33 [some (zR 9 0), some (zI (j)), some (zI ((0 : Int32)))] [] M) ∧ (((M.1 9 3 (j).toNatClampNeg) = 0) → (kd 9 = 8) ∧ ∀ v2 : Int32, (v2.toInt = -3) → ∀ M2 : zM, (M2 = zmw M 9 4 (upd (M.1 9 4) 1 (M.1 9 4 1 + 1))) → K (some (zI (v2))) M2)) ∧ ((v1 = 0) → (kd 9 = 8) ∧ ∀ v3 : Int32, (v3 = (-2 : Int32)) → ∀ M3 : zM, (M3 = zmw M 9 4 (upd (M.1 9 4) 0 (M.1 9 4 0 + 1))) → K (some (zI (v3))) M3) from fun v1 => have h := h v1; fun q => have h := h q; ⟨fun q => have h := h.1 q; ⟨hk0, ⟨h.1, have h := h.2; ⟨fun q => have h := h.1 q; h, fun q => have h := h.2 q; ⟨hk0, fun v2 => have h := h v2; fun q => have h := h q; fun M2 => have h := h M2; fun q => have h := h q; h⟩⟩⟩⟩, fun q => have h := h.2 q; ⟨hk0, fun v3 => have h := h v3; fun q => have h := h q; fun M3 => have h := h M3; fun q => have h := h q; h⟩⟩)
set_option maxRecDepth 100000 in
theorem vc_X8_from_33 {kd : Nat → Nat} {K : zK} {X : zX} (hX : ∀ (n pc : Nat) (ls : zLS) (st : List zV) (M : zM), zrun (tb_X8_from kd K) [(33, [])] n X pc ls st M → X pc ls st M) {j : Int32} {k : Int32} {M : zM} (hk0 : kd 9 = 8) (h : (((915 : Int32) ≤ k) → K (some (zI ((1 : Int32)))) M) ∧ ((¬ (915 : Int32) ≤ k) → (zin (kd 9) 2 0 (((915 : Int32) * j) + k)) ∧ (zin (kd 9) 1 0 k) ∧ ∀ M1 : zM, (M1 = zmw M 9 1 (upd (M.1 9 1) (k).toNatClampNeg (M.1 9 2 (((915 : Int32) * j) + k).toNatClampNeg))) → X 33 [some (zR 9 0), some (zI (j)), some (zI (k + 1))] [] M1)) : X 33 [some (zR 9 0), some (zI (j)), some (zI (k))] [] M := hX 19 33 _ [] M (show (((915 : Int32) ≤ k) → K (some (zI ((1 : Int32)))) M) ∧ ((¬ (915 : Int32) ≤ k) → (kd 9 = 8) ∧ (kd 9 = 8) ∧ (zin (kd 9) 2 0 (((915 : Int32) * j) + k)) ∧ (zin (kd 9) 1 0 k) ∧ ∀ M1 : zM, (M1 = zmw M 9 1 (upd (M.1 9 1) (k).toNatClampNeg (M.1 9 2 (((915 : Int32) * j) + k).toNatClampNeg))) → X 33 [some (zR 9 0), some (zI (j)), some (zI (k + 1))] [] M1) from ⟨fun q => have h := h.1 q; h, fun q => have h := h.2 q; ⟨hk0, ⟨hk0, ⟨h.1, have h := h.2; ⟨h.1, have h := h.2; fun M1 => have h := h M1; fun q => have h := h q; h⟩⟩⟩⟩⟩)
def sp_X8_image : zSpec := fun kd as M K => match as with
  | [.inr (.inr (.inl (9, 0))), .inl j] => (kd 9 = 8) ∧ ∃ s : St, (RpM M s) ∧ ∀ v : Int32, (v.toInt = (ev_image s j.toInt).1) → ∀ M' : zM, (RpM M' (ev_image s j.toInt).2) → (fr0 M M') → K (some (.inl v)) M'
  | _ => False
theorem rv_X8_image : zrv sp_X8_image 8 1 := by
  intro kd as M K h
  unfold sp_X8_image at h
  split at h
  · exact ⟨_, _, rfl, h.1⟩
  · exact h.elim
theorem dd_X8_image_0 : decode cX8_image 0 = .ok (.iload_n 1, 1) := by decide +kernel
theorem dd_X8_image_1 : decode cX8_image 1 = .ok (.i2l, 1) := by decide +kernel
theorem dd_X8_image_2 : decode cX8_image 2 = .ok (.lconst 0, 1) := by decide +kernel
theorem dd_X8_image_3 : decode cX8_image 3 = .ok (.lconst 1, 1) := by decide +kernel
theorem dd_X8_image_4 : decode cX8_image 4 = .ok (.invokestatic 54, 3) := by decide +kernel
theorem dd_X8_image_7 : decode cX8_image 7 = .ok (.ifCond .ne 10, 3) := by decide +kernel
theorem dd_X8_image_10 : decode cX8_image 10 = .ok (.aload_n 0, 1) := by decide +kernel
theorem dd_X8_image_11 : decode cX8_image 11 = .ok (.bipush (-2), 2) := by decide +kernel
theorem dd_X8_image_13 : decode cX8_image 13 = .ok (.invokevirtual 81, 3) := by decide +kernel
theorem dd_X8_image_16 : decode cX8_image 16 = .ok (.ireturn, 1) := by decide +kernel
theorem dd_X8_image_17 : decode cX8_image 17 = .ok (.iconst 0, 1) := by decide +kernel
theorem dd_X8_image_18 : decode cX8_image 18 = .ok (.istore_n 2, 1) := by decide +kernel
theorem dd_X8_image_19 : decode cX8_image 19 = .ok (.iload_n 2, 1) := by decide +kernel
theorem dd_X8_image_20 : decode cX8_image 20 = .ok (.sipush 915, 3) := by decide +kernel
theorem dd_X8_image_23 : decode cX8_image 23 = .ok (.if_icmp .ge 27, 3) := by decide +kernel
theorem dd_X8_image_26 : decode cX8_image 26 = .ok (.aload_n 0, 1) := by decide +kernel
theorem dd_X8_image_27 : decode cX8_image 27 = .ok (.getfield 13, 3) := by decide +kernel
theorem dd_X8_image_30 : decode cX8_image 30 = .ok (.sipush 915, 3) := by decide +kernel
theorem dd_X8_image_33 : decode cX8_image 33 = .ok (.iload_n 1, 1) := by decide +kernel
theorem dd_X8_image_34 : decode cX8_image 34 = .ok (.imul, 1) := by decide +kernel
theorem dd_X8_image_35 : decode cX8_image 35 = .ok (.iload_n 2, 1) := by decide +kernel
theorem dd_X8_image_36 : decode cX8_image 36 = .ok (.iadd, 1) := by decide +kernel
theorem dd_X8_image_37 : decode cX8_image 37 = .ok (.aload_n 0, 1) := by decide +kernel
theorem dd_X8_image_38 : decode cX8_image 38 = .ok (.getfield 7, 3) := by decide +kernel
theorem dd_X8_image_41 : decode cX8_image 41 = .ok (.iload_n 2, 1) := by decide +kernel
theorem dd_X8_image_42 : decode cX8_image 42 = .ok (.iaload, 1) := by decide +kernel
theorem dd_X8_image_43 : decode cX8_image 43 = .ok (.iastore, 1) := by decide +kernel
theorem dd_X8_image_44 : decode cX8_image 44 = .ok (.iinc 2 1, 3) := by decide +kernel
theorem dd_X8_image_47 : decode cX8_image 47 = .ok (.goto (-28), 3) := by decide +kernel
theorem dd_X8_image_50 : decode cX8_image 50 = .ok (.aload_n 0, 1) := by decide +kernel
theorem dd_X8_image_51 : decode cX8_image 51 = .ok (.getfield 16, 3) := by decide +kernel
theorem dd_X8_image_54 : decode cX8_image 54 = .ok (.iload_n 1, 1) := by decide +kernel
theorem dd_X8_image_55 : decode cX8_image 55 = .ok (.iconst 1, 1) := by decide +kernel
theorem dd_X8_image_56 : decode cX8_image 56 = .ok (.bastore, 1) := by decide +kernel
theorem dd_X8_image_57 : decode cX8_image 57 = .ok (.iconst 1, 1) := by decide +kernel
theorem dd_X8_image_58 : decode cX8_image 58 = .ok (.ireturn, 1) := by decide +kernel
def tb_X8_image (kd : Nat → Nat) (K : zK) : zTab := [(0, zt_iload 1 1), (1, zt_un (fun x => zL x.toInt64) 2), (2, zt_const (zL 0) 3), (3, zt_const (zL 1) 4), (4, zt_call kd sp_X8_in 3 7), (7, zt_if (fun x => ¬ x = 0) (fun x => x = 0) 17 10), (10, zt_aload 0 11), (11, zt_const (zI (-2)) 13), (13, zt_call kd sp_X8_bad 2 16), (16, zt_iret K), (17, zt_const (zI 0) 18), (18, zt_istore 2 19), (19, zt_iload 2 20), (20, zt_const (zI 915) 23), (23, zt_icmp (fun x y => y ≤ x) (fun x y => ¬ y ≤ x) 50 26), (26, zt_aload 0 27), (27, zt_getR kd 8 0 2 30), (30, zt_const (zI 915) 33), (33, zt_iload 1 34), (34, zt_bin (fun x y => x * y) 35), (35, zt_iload 2 36), (36, zt_bin (fun x y => x + y) 37), (37, zt_aload 0 38), (38, zt_getR kd 8 0 1 41), (41, zt_iload 2 42), (42, zt_ald kd 0 43), (43, zt_ast kd 0 44), (44, zt_iinc 2 1 47), (47, zt_goto 19), (50, zt_aload 0 51), (51, zt_getR kd 8 0 3 54), (54, zt_iload 1 55), (55, zt_const (zI 1) 56), (56, zt_ast kd 2 57), (57, zt_const (zI 1) 58), (58, zt_iret K)]
set_option maxRecDepth 20000 in
theorem tk_X8_image (d : Nat) (h_X8_in : zMS 1 yX8_in cX8_in 6 (some .boolean) sp_X8_in) (h_X8_bad : zMS 1 yX8_bad cX8_bad 2 (some .int) sp_X8_bad) : zTrue RX8 cX8_image 3 (some .int) (d + 2) (fun kd K => tb_X8_image kd K) := by
  intro p l e R s m args below meth c D cy A ad bl Qm K C0 hr hlocks hQ
  obtain ⟨hx, hb, hml, hown, hts, hK, hD, hA0, hN, hE, ⟨hR1, hR2⟩, hc1, hc2⟩ := id C0
  unfold tb_X8_image
  refine List.forall_mem_cons.mpr ⟨ok_iload_n hx hb rfl dd_X8_image_0, ?_⟩
  refine List.forall_mem_cons.mpr ⟨ok_i2l hx hb dd_X8_image_1, ?_⟩
  refine List.forall_mem_cons.mpr ⟨ok_lconst hx hb dd_X8_image_2 (by decide), ?_⟩
  refine List.forall_mem_cons.mpr ⟨ok_lconst hx hb dd_X8_image_3 (by decide), ?_⟩
  refine List.forall_mem_cons.mpr ⟨ok_callS (n := 3) C0 (h_X8_in (d + 1) (by omega)) (by decide) wd_928 wd_926 wd_927 wd_107 ⟨by decide +kernel, by decide +kernel, by decide +kernel⟩ dd_X8_image_4, ?_⟩
  refine List.forall_mem_cons.mpr ⟨ok_if_ne hx hb dd_X8_image_7 (by decide), ?_⟩
  refine List.forall_mem_cons.mpr ⟨ok_aload_n hx hb rfl dd_X8_image_10, ?_⟩
  refine List.forall_mem_cons.mpr ⟨ok_bipush hx hb dd_X8_image_11 (by decide), ?_⟩
  refine List.forall_mem_cons.mpr ⟨ok_callV (n := 1) zc_X8 rv_X8_bad C0 (h_X8_bad (d + 1) (by omega)) (by decide) wd_936 wd_933 wd_935 wd_62 wd_107 ⟨rfl, by decide +kernel, by decide +kernel, by decide +kernel⟩ dd_X8_image_13, ?_⟩
  refine List.forall_mem_cons.mpr ⟨ok_iret hx hb hr hlocks hQ dd_X8_image_16, ?_⟩
  refine List.forall_mem_cons.mpr ⟨ok_iconst hx hb dd_X8_image_17 (by decide), ?_⟩
  refine List.forall_mem_cons.mpr ⟨ok_istore_n hx hb rfl dd_X8_image_18, ?_⟩
  refine List.forall_mem_cons.mpr ⟨ok_iload_n hx hb rfl dd_X8_image_19, ?_⟩
  refine List.forall_mem_cons.mpr ⟨ok_sipush hx hb dd_X8_image_20 (by decide), ?_⟩
  refine List.forall_mem_cons.mpr ⟨ok_icmp_ge hx hb dd_X8_image_23 (by decide), ?_⟩
  refine List.forall_mem_cons.mpr ⟨ok_aload_n hx hb rfl dd_X8_image_26, ?_⟩
  refine List.forall_mem_cons.mpr ⟨ok_getR (j := 1) hx hb hts zi_X8 hown hK zc_X8 (by decide) rfl (fun t fl h => by cases h; rfl) (hts _ wd_841) dd_X8_image_27, ?_⟩
  refine List.forall_mem_cons.mpr ⟨ok_sipush hx hb dd_X8_image_30 (by decide), ?_⟩
  refine List.forall_mem_cons.mpr ⟨ok_iload_n hx hb rfl dd_X8_image_33, ?_⟩
  refine List.forall_mem_cons.mpr ⟨ok_imul hx hb dd_X8_image_34, ?_⟩
  refine List.forall_mem_cons.mpr ⟨ok_iload_n hx hb rfl dd_X8_image_35, ?_⟩
  refine List.forall_mem_cons.mpr ⟨ok_iadd hx hb dd_X8_image_36, ?_⟩
  refine List.forall_mem_cons.mpr ⟨ok_aload_n hx hb rfl dd_X8_image_37, ?_⟩
  refine List.forall_mem_cons.mpr ⟨ok_getR (j := 0) hx hb hts zi_X8 hown hK zc_X8 (by decide) rfl (fun t fl h => by cases h; rfl) (hts _ wd_840) dd_X8_image_38, ?_⟩
  refine List.forall_mem_cons.mpr ⟨ok_iload_n hx hb rfl dd_X8_image_41, ?_⟩
  refine List.forall_mem_cons.mpr ⟨ok_ald (ty := 0) rfl hx hb hK (Or.inl ⟨rfl, rfl, dd_X8_image_42⟩), ?_⟩
  refine List.forall_mem_cons.mpr ⟨ok_ast (ty := 0) rfl hx hb hK hD (Or.inl ⟨rfl, rfl, dd_X8_image_43⟩), ?_⟩
  refine List.forall_mem_cons.mpr ⟨ok_iinc hx hb dd_X8_image_44 (by decide), ?_⟩
  refine List.forall_mem_cons.mpr ⟨ok_goto hx hb dd_X8_image_47 (by decide), ?_⟩
  refine List.forall_mem_cons.mpr ⟨ok_aload_n hx hb rfl dd_X8_image_50, ?_⟩
  refine List.forall_mem_cons.mpr ⟨ok_getR (j := 2) hx hb hts zi_X8 hown hK zc_X8 (by decide) rfl (fun t fl h => by cases h; rfl) (hts _ wd_842) dd_X8_image_51, ?_⟩
  refine List.forall_mem_cons.mpr ⟨ok_iload_n hx hb rfl dd_X8_image_54, ?_⟩
  refine List.forall_mem_cons.mpr ⟨ok_iconst hx hb dd_X8_image_55 (by decide), ?_⟩
  refine List.forall_mem_cons.mpr ⟨ok_ast (ty := 2) rfl hx hb hK hD (Or.inr (Or.inr ⟨rfl, rfl, dd_X8_image_56⟩)), ?_⟩
  refine List.forall_mem_cons.mpr ⟨ok_iconst hx hb dd_X8_image_57 (by decide), ?_⟩
  refine List.forall_mem_cons.mpr ⟨ok_iret hx hb hr hlocks hQ dd_X8_image_58, ?_⟩
  exact fun _ h => absurd h List.not_mem_nil
set_option maxRecDepth 100000 in
theorem vc_X8_image_0 {kd : Nat → Nat} {K : zK} {X : zX} (hX : ∀ (n pc : Nat) (ls : zLS) (st : List zV) (M : zM), zrun (tb_X8_image kd K) [(19, [])] n X pc ls st M → X pc ls st M) {j : Int32} {M : zM} (hk0 : kd 9 = 8) (h : ∀ v1 : Int32, (v1 = zp ((0 : Int64).toInt ≤ j.toInt64.toInt ∧ j.toInt64.toInt ≤ (1 : Int64).toInt)) → ((¬ v1 = 0) → X 19 [some (zR 9 0), some (zI (j)), some (zI ((0 : Int32)))] [] M) ∧ ((v1 = 0) → ∀ v2 : Int32, (v2 = (-2 : Int32)) → ∀ M2 : zM, (M2 = zmw M 9 4 (upd (M.1 9 4) 0 (M.1 9 4 0 + 1))) → K (some (zI (v2))) M2)) : X 0 [some (zR 9 0), some (zI (j)), none] [] M := hX 11 0 _ [] M (show ∀ v1 : Int32, (v1 = zp ((0 : Int64).toInt ≤ j.toInt64.toInt ∧ j.toInt64.toInt ≤ (1 : Int64).toInt)) → ((¬ v1 = 0) → X 19 [some (zR 9 0), some (zI (j)), some (zI ((0 : Int32)))] [] M) ∧ ((v1 = 0) → (kd 9 = 8) ∧ ∀ v2 : Int32, (v2 = (-2 : Int32)) → ∀ M2 : zM, (M2 = zmw M 9 4 (upd (M.1 9 4) 0 (M.1 9 4 0 + 1))) → K (some (zI (v2))) M2) from fun v1 => have h := h v1; fun q => have h := h q; ⟨fun q => have h := h.1 q; h, fun q => have h := h.2 q; ⟨hk0, fun v2 => have h := h v2; fun q => have h := h q; fun M2 => have h := h M2; fun q => have h := h q; h⟩⟩)
set_option maxRecDepth 100000 in
theorem vc_X8_image_19 {kd : Nat → Nat} {K : zK} {X : zX} (hX : ∀ (n pc : Nat) (ls : zLS) (st : List zV) (M : zM), zrun (tb_X8_image kd K) [(19, [])] n X pc ls st M → X pc ls st M) {j : Int32} {k : Int32} {M : zM} (hk0 : kd 9 = 8) (h : (((915 : Int32) ≤ k) → (zin (kd 9) 3 2 j) ∧ ∀ M1 : zM, (M1 = zmw M 9 3 (upd (M.1 9 3) (j).toNatClampNeg (vp_nar .boolean (1 : Int32)))) → K (some (zI ((1 : Int32)))) M1) ∧ ((¬ (915 : Int32) ≤ k) → (zin (kd 9) 1 0 k) ∧ (zin (kd 9) 2 0 (((915 : Int32) * j) + k)) ∧ ∀ M2 : zM, (M2 = zmw M 9 2 (upd (M.1 9 2) (((915 : Int32) * j) + k).toNatClampNeg (M.1 9 1 (k).toNatClampNeg))) → X 19 [some (zR 9 0), some (zI (j)), some (zI (k + 1))] [] M2)) : X 19 [some (zR 9 0), some (zI (j)), some (zI (k))] [] M := hX 19 19 _ [] M (show (((915 : Int32) ≤ k) → (kd 9 = 8) ∧ (zin (kd 9) 3 2 j) ∧ ∀ M1 : zM, (M1 = zmw M 9 3 (upd (M.1 9 3) (j).toNatClampNeg (vp_nar .boolean (1 : Int32)))) → K (some (zI ((1 : Int32)))) M1) ∧ ((¬ (915 : Int32) ≤ k) → (kd 9 = 8) ∧ (kd 9 = 8) ∧ (zin (kd 9) 1 0 k) ∧ (zin (kd 9) 2 0 (((915 : Int32) * j) + k)) ∧ ∀ M2 : zM, (M2 = zmw M 9 2 (upd (M.1 9 2) (((915 : Int32) * j) + k).toNatClampNeg (M.1 9 1 (k).toNatClampNeg))) → X 19 [some (zR 9 0), some (zI (j)), some (zI (k + 1))] [] M2) from ⟨fun q => have h := h.1 q; ⟨hk0, ⟨h.1, have h := h.2; fun M1 => have h := h M1; fun q => have h := h q; h⟩⟩, fun q => have h := h.2 q; ⟨hk0, ⟨hk0, ⟨h.1, have h := h.2; ⟨h.1, have h := h.2; fun M2 => have h := h M2; fun q => have h := h q; h⟩⟩⟩⟩⟩)
