def sp_X8_layRule : zSpec := fun kd as M K => match as with
  | [.inr (.inr (.inl (9, 0))), .inl g, .inl y] => (kd 9 = 8) ∧ ∃ a : Sk, (RpF (M.1 9 5) a) ∧ (0 ≤ y.toInt ∧ y.toInt < 1000000) ∧ ∀ f : Nat → Int32, ((f 7).toInt = sk_N a g.toInt 1 y.toInt ∧ (f 8).toInt = sk_N a g.toInt 0 y.toInt ∧ ∀ j9, j9 ≠ 7 → j9 ≠ 8 → f j9 = M.1 9 0 j9) → ∀ M' : zM, (M' = zmw M 9 0 f) → K none M'
  | _ => False
theorem rv_X8_layRule : zrv sp_X8_layRule 8 2 := by
  intro kd as M K h
  unfold sp_X8_layRule at h
  split at h
  · exact ⟨_, _, rfl, h.1⟩
  · exact h.elim
theorem dd_X8_layRule_0 : decode cX8_layRule 0 = .ok (.aload_n 0, 1) := by decide +kernel
theorem dd_X8_layRule_1 : decode cX8_layRule 1 = .ok (.iconst 0, 1) := by decide +kernel
theorem dd_X8_layRule_2 : decode cX8_layRule 2 = .ok (.putfield 123, 3) := by decide +kernel
theorem dd_X8_layRule_5 : decode cX8_layRule 5 = .ok (.aload_n 0, 1) := by decide +kernel
theorem dd_X8_layRule_6 : decode cX8_layRule 6 = .ok (.iconst 0, 1) := by decide +kernel
theorem dd_X8_layRule_7 : decode cX8_layRule 7 = .ok (.putfield 127, 3) := by decide +kernel
theorem dd_X8_layRule_10 : decode cX8_layRule 10 = .ok (.iconst 0, 1) := by decide +kernel
theorem dd_X8_layRule_11 : decode cX8_layRule 11 = .ok (.istore_n 3, 1) := by decide +kernel
theorem dd_X8_layRule_12 : decode cX8_layRule 12 = .ok (.iload_n 3, 1) := by decide +kernel
theorem dd_X8_layRule_13 : decode cX8_layRule 13 = .ok (.bipush 6, 2) := by decide +kernel
theorem dd_X8_layRule_15 : decode cX8_layRule 15 = .ok (.if_icmp .ge 90, 3) := by decide +kernel
theorem dd_X8_layRule_18 : decode cX8_layRule 18 = .ok (.iconst 0, 1) := by decide +kernel
theorem dd_X8_layRule_19 : decode cX8_layRule 19 = .ok (.istore 4, 2) := by decide +kernel
theorem dd_X8_layRule_21 : decode cX8_layRule 21 = .ok (.iload 4, 2) := by decide +kernel
theorem dd_X8_layRule_23 : decode cX8_layRule 23 = .ok (.aload_n 0, 1) := by decide +kernel
theorem dd_X8_layRule_24 : decode cX8_layRule 24 = .ok (.getfield 27, 3) := by decide +kernel
theorem dd_X8_layRule_27 : decode cX8_layRule 27 = .ok (.iconst 0, 1) := by decide +kernel
theorem dd_X8_layRule_28 : decode cX8_layRule 28 = .ok (.iload_n 3, 1) := by decide +kernel
theorem dd_X8_layRule_29 : decode cX8_layRule 29 = .ok (.iadd, 1) := by decide +kernel
theorem dd_X8_layRule_30 : decode cX8_layRule 30 = .ok (.iaload, 1) := by decide +kernel
theorem dd_X8_layRule_31 : decode cX8_layRule 31 = .ok (.if_icmp .ge 68, 3) := by decide +kernel
theorem dd_X8_layRule_34 : decode cX8_layRule 34 = .ok (.aload_n 0, 1) := by decide +kernel
theorem dd_X8_layRule_35 : decode cX8_layRule 35 = .ok (.iload_n 3, 1) := by decide +kernel
theorem dd_X8_layRule_36 : decode cX8_layRule 36 = .ok (.iload 4, 2) := by decide +kernel
theorem dd_X8_layRule_38 : decode cX8_layRule 38 = .ok (.iconst 1, 1) := by decide +kernel
theorem dd_X8_layRule_39 : decode cX8_layRule 39 = .ok (.invokevirtual 113, 3) := by decide +kernel
theorem dd_X8_layRule_42 : decode cX8_layRule 42 = .ok (.iload_n 1, 1) := by decide +kernel
theorem dd_X8_layRule_43 : decode cX8_layRule 43 = .ok (.if_icmp .ne 50, 3) := by decide +kernel
theorem dd_X8_layRule_46 : decode cX8_layRule 46 = .ok (.aload_n 0, 1) := by decide +kernel
theorem dd_X8_layRule_47 : decode cX8_layRule 47 = .ok (.iload_n 3, 1) := by decide +kernel
theorem dd_X8_layRule_48 : decode cX8_layRule 48 = .ok (.iload 4, 2) := by decide +kernel
theorem dd_X8_layRule_50 : decode cX8_layRule 50 = .ok (.iload_n 2, 1) := by decide +kernel
theorem dd_X8_layRule_51 : decode cX8_layRule 51 = .ok (.invokevirtual 130, 3) := by decide +kernel
theorem dd_X8_layRule_54 : decode cX8_layRule 54 = .ok (.ifCond .eq 39, 3) := by decide +kernel
theorem dd_X8_layRule_57 : decode cX8_layRule 57 = .ok (.aload_n 0, 1) := by decide +kernel
theorem dd_X8_layRule_58 : decode cX8_layRule 58 = .ok (.dup, 1) := by decide +kernel
theorem dd_X8_layRule_59 : decode cX8_layRule 59 = .ok (.getfield 123, 3) := by decide +kernel
theorem dd_X8_layRule_62 : decode cX8_layRule 62 = .ok (.aload_n 0, 1) := by decide +kernel
theorem dd_X8_layRule_63 : decode cX8_layRule 63 = .ok (.iload_n 3, 1) := by decide +kernel
theorem dd_X8_layRule_64 : decode cX8_layRule 64 = .ok (.iload 4, 2) := by decide +kernel
theorem dd_X8_layRule_66 : decode cX8_layRule 66 = .ok (.iconst 2, 1) := by decide +kernel
theorem dd_X8_layRule_67 : decode cX8_layRule 67 = .ok (.invokevirtual 113, 3) := by decide +kernel
theorem dd_X8_layRule_70 : decode cX8_layRule 70 = .ok (.iadd, 1) := by decide +kernel
theorem dd_X8_layRule_71 : decode cX8_layRule 71 = .ok (.putfield 123, 3) := by decide +kernel
theorem dd_X8_layRule_74 : decode cX8_layRule 74 = .ok (.aload_n 0, 1) := by decide +kernel
theorem dd_X8_layRule_75 : decode cX8_layRule 75 = .ok (.dup, 1) := by decide +kernel
theorem dd_X8_layRule_76 : decode cX8_layRule 76 = .ok (.getfield 127, 3) := by decide +kernel
theorem dd_X8_layRule_79 : decode cX8_layRule 79 = .ok (.iconst 1, 1) := by decide +kernel
theorem dd_X8_layRule_80 : decode cX8_layRule 80 = .ok (.aload_n 0, 1) := by decide +kernel
theorem dd_X8_layRule_81 : decode cX8_layRule 81 = .ok (.iload_n 3, 1) := by decide +kernel
theorem dd_X8_layRule_82 : decode cX8_layRule 82 = .ok (.iload 4, 2) := by decide +kernel
theorem dd_X8_layRule_84 : decode cX8_layRule 84 = .ok (.iconst 2, 1) := by decide +kernel
theorem dd_X8_layRule_85 : decode cX8_layRule 85 = .ok (.invokevirtual 113, 3) := by decide +kernel
theorem dd_X8_layRule_88 : decode cX8_layRule 88 = .ok (.isub, 1) := by decide +kernel
theorem dd_X8_layRule_89 : decode cX8_layRule 89 = .ok (.iadd, 1) := by decide +kernel
theorem dd_X8_layRule_90 : decode cX8_layRule 90 = .ok (.putfield 127, 3) := by decide +kernel
theorem dd_X8_layRule_93 : decode cX8_layRule 93 = .ok (.iinc 4 1, 3) := by decide +kernel
theorem dd_X8_layRule_96 : decode cX8_layRule 96 = .ok (.goto (-75), 3) := by decide +kernel
theorem dd_X8_layRule_99 : decode cX8_layRule 99 = .ok (.iinc 3 1, 3) := by decide +kernel
theorem dd_X8_layRule_102 : decode cX8_layRule 102 = .ok (.goto (-90), 3) := by decide +kernel
theorem dd_X8_layRule_105 : decode cX8_layRule 105 = .ok (.return_, 1) := by decide +kernel
def tb_X8_layRule (kd : Nat → Nat) (K : zK) : zTab := [(0, zt_aload 0 1), (1, zt_const (zI 0) 2), (2, zt_putI kd 8 7 5), (5, zt_aload 0 6), (6, zt_const (zI 0) 7), (7, zt_putI kd 8 8 10), (10, zt_const (zI 0) 11), (11, zt_istore 3 12), (12, zt_iload 3 13), (13, zt_const (zI 6) 15), (15, zt_icmp (fun x y => y ≤ x) (fun x y => ¬ y ≤ x) 105 18), (18, zt_const (zI 0) 19), (19, zt_istore 4 21), (21, zt_iload 4 23), (23, zt_aload 0 24), (24, zt_getR kd 8 0 5 27), (27, zt_const (zI 0) 28), (28, zt_iload 3 29), (29, zt_bin (fun x y => x + y) 30), (30, zt_ald kd 0 31), (31, zt_icmp (fun x y => y ≤ x) (fun x y => ¬ y ≤ x) 99 34), (34, zt_aload 0 35), (35, zt_iload 3 36), (36, zt_iload 4 38), (38, zt_const (zI 1) 39), (39, zt_call kd sp_X8_hands 4 42), (42, zt_iload 1 43), (43, zt_icmp (fun x y => ¬ x = y) (fun x y => x = y) 93 46), (46, zt_aload 0 47), (47, zt_iload 3 48), (48, zt_iload 4 50), (50, zt_iload 2 51), (51, zt_call kd sp_X8_bindsNow 4 54), (54, zt_if (fun x => x = 0) (fun x => ¬ x = 0) 93 57), (57, zt_aload 0 58), (58, zt_dup 59), (59, zt_getI kd 8 7 62), (62, zt_aload 0 63), (63, zt_iload 3 64), (64, zt_iload 4 66), (66, zt_const (zI 2) 67), (67, zt_call kd sp_X8_hands 4 70), (70, zt_bin (fun x y => x + y) 71), (71, zt_putI kd 8 7 74), (74, zt_aload 0 75), (75, zt_dup 76), (76, zt_getI kd 8 8 79), (79, zt_const (zI 1) 80), (80, zt_aload 0 81), (81, zt_iload 3 82), (82, zt_iload 4 84), (84, zt_const (zI 2) 85), (85, zt_call kd sp_X8_hands 4 88), (88, zt_bin (fun x y => x - y) 89), (89, zt_bin (fun x y => x + y) 90), (90, zt_putI kd 8 8 93), (93, zt_iinc 4 1 96), (96, zt_goto 21), (99, zt_iinc 3 1 102), (102, zt_goto 12), (105, zt_vret K)]
set_option maxRecDepth 20000 in
theorem tk_X8_layRule (d : Nat) (h_X8_hands : zMS 2 yX8_hands cX8_hands 4 (some .int) sp_X8_hands) (h_X8_bindsNow : zMS 5 yX8_bindsNow cX8_bindsNow 4 (some .boolean) sp_X8_bindsNow) : zTrue RX8 cX8_layRule 5 none (d + 6) (fun kd K => tb_X8_layRule kd K) := by
  intro p l e R s m args below meth c D cy A ad bl Qm K C0 hr hlocks hQ
  obtain ⟨hx, hb, hml, hown, hts, hK, hD, hA0, hN, hE, ⟨hR1, hR2⟩, hc1, hc2⟩ := id C0
  unfold tb_X8_layRule
  refine List.forall_mem_cons.mpr ⟨ok_aload_n hx hb rfl dd_X8_layRule_0, ?_⟩
  refine List.forall_mem_cons.mpr ⟨ok_iconst hx hb dd_X8_layRule_1 (by decide), ?_⟩
  refine List.forall_mem_cons.mpr ⟨ok_putI (j := 7) hx hb hts zi_X8 tyX8 tyX8_ok nmX8 hown hK hD zc_X8 (by decide) rfl rfl (by decide +kernel) (fun t fl h => by cases h; rfl) (hts _ wd_847) dd_X8_layRule_2, ?_⟩
  refine List.forall_mem_cons.mpr ⟨ok_aload_n hx hb rfl dd_X8_layRule_5, ?_⟩
  refine List.forall_mem_cons.mpr ⟨ok_iconst hx hb dd_X8_layRule_6 (by decide), ?_⟩
  refine List.forall_mem_cons.mpr ⟨ok_putI (j := 8) hx hb hts zi_X8 tyX8 tyX8_ok nmX8 hown hK hD zc_X8 (by decide) rfl rfl (by decide +kernel) (fun t fl h => by cases h; rfl) (hts _ wd_848) dd_X8_layRule_7, ?_⟩
  refine List.forall_mem_cons.mpr ⟨ok_iconst hx hb dd_X8_layRule_10 (by decide), ?_⟩
  refine List.forall_mem_cons.mpr ⟨ok_istore_n hx hb rfl dd_X8_layRule_11, ?_⟩
  refine List.forall_mem_cons.mpr ⟨ok_iload_n hx hb rfl dd_X8_layRule_12, ?_⟩
  refine List.forall_mem_cons.mpr ⟨ok_bipush hx hb dd_X8_layRule_13 (by decide), ?_⟩
  refine List.forall_mem_cons.mpr ⟨ok_icmp_ge hx hb dd_X8_layRule_15 (by decide), ?_⟩
  refine List.forall_mem_cons.mpr ⟨ok_iconst hx hb dd_X8_layRule_18 (by decide), ?_⟩
  refine List.forall_mem_cons.mpr ⟨ok_istore hx hb dd_X8_layRule_19, ?_⟩
  refine List.forall_mem_cons.mpr ⟨ok_iload hx hb dd_X8_layRule_21, ?_⟩
  refine List.forall_mem_cons.mpr ⟨ok_aload_n hx hb rfl dd_X8_layRule_23, ?_⟩
  refine List.forall_mem_cons.mpr ⟨ok_getR (j := 6) hx hb hts zi_X8 hown hK zc_X8 (by decide) rfl (fun t fl h => by cases h; rfl) (hts _ wd_846) dd_X8_layRule_24, ?_⟩
  refine List.forall_mem_cons.mpr ⟨ok_iconst hx hb dd_X8_layRule_27 (by decide), ?_⟩
  refine List.forall_mem_cons.mpr ⟨ok_iload_n hx hb rfl dd_X8_layRule_28, ?_⟩
  refine List.forall_mem_cons.mpr ⟨ok_iadd hx hb dd_X8_layRule_29, ?_⟩
  refine List.forall_mem_cons.mpr ⟨ok_ald (ty := 0) rfl hx hb hK (Or.inl ⟨rfl, rfl, dd_X8_layRule_30⟩), ?_⟩
  refine List.forall_mem_cons.mpr ⟨ok_icmp_ge hx hb dd_X8_layRule_31 (by decide), ?_⟩
  refine List.forall_mem_cons.mpr ⟨ok_aload_n hx hb rfl dd_X8_layRule_34, ?_⟩
  refine List.forall_mem_cons.mpr ⟨ok_iload_n hx hb rfl dd_X8_layRule_35, ?_⟩
  refine List.forall_mem_cons.mpr ⟨ok_iload hx hb dd_X8_layRule_36, ?_⟩
  refine List.forall_mem_cons.mpr ⟨ok_iconst hx hb dd_X8_layRule_38 (by decide), ?_⟩
  refine List.forall_mem_cons.mpr ⟨ok_callV (n := 3) zc_X8 rv_X8_hands C0 (h_X8_hands (d + 5) (by omega)) (by decide) wd_1008 wd_1005 wd_1007 wd_69 wd_107 ⟨rfl, by decide +kernel, by decide +kernel, by decide +kernel⟩ dd_X8_layRule_39, ?_⟩
  refine List.forall_mem_cons.mpr ⟨ok_iload_n hx hb rfl dd_X8_layRule_42, ?_⟩
  refine List.forall_mem_cons.mpr ⟨ok_icmp_ne hx hb dd_X8_layRule_43 (by decide), ?_⟩
  refine List.forall_mem_cons.mpr ⟨ok_aload_n hx hb rfl dd_X8_layRule_46, ?_⟩
  refine List.forall_mem_cons.mpr ⟨ok_iload_n hx hb rfl dd_X8_layRule_47, ?_⟩
  refine List.forall_mem_cons.mpr ⟨ok_iload hx hb dd_X8_layRule_48, ?_⟩
  refine List.forall_mem_cons.mpr ⟨ok_iload_n hx hb rfl dd_X8_layRule_50, ?_⟩
  refine List.forall_mem_cons.mpr ⟨ok_callV (n := 3) zc_X8 rv_X8_bindsNow C0 (h_X8_bindsNow (d + 5) (by omega)) (by decide) wd_1004 wd_1001 wd_1003 wd_68 wd_107 ⟨rfl, by decide +kernel, by decide +kernel, by decide +kernel⟩ dd_X8_layRule_51, ?_⟩
  refine List.forall_mem_cons.mpr ⟨ok_if_eq hx hb dd_X8_layRule_54 (by decide), ?_⟩
  refine List.forall_mem_cons.mpr ⟨ok_aload_n hx hb rfl dd_X8_layRule_57, ?_⟩
  refine List.forall_mem_cons.mpr ⟨ok_dup hx hb dd_X8_layRule_58, ?_⟩
  refine List.forall_mem_cons.mpr ⟨ok_getI (j := 7) hx hb hts zi_X8 hown hK zc_X8 (by decide) rfl (fun t fl h => by cases h; rfl) (hts _ wd_847) dd_X8_layRule_59, ?_⟩
  refine List.forall_mem_cons.mpr ⟨ok_aload_n hx hb rfl dd_X8_layRule_62, ?_⟩
  refine List.forall_mem_cons.mpr ⟨ok_iload_n hx hb rfl dd_X8_layRule_63, ?_⟩
  refine List.forall_mem_cons.mpr ⟨ok_iload hx hb dd_X8_layRule_64, ?_⟩
  refine List.forall_mem_cons.mpr ⟨ok_iconst hx hb dd_X8_layRule_66 (by decide), ?_⟩
  refine List.forall_mem_cons.mpr ⟨ok_callV (n := 3) zc_X8 rv_X8_hands C0 (h_X8_hands (d + 5) (by omega)) (by decide) wd_1008 wd_1005 wd_1007 wd_69 wd_107 ⟨rfl, by decide +kernel, by decide +kernel, by decide +kernel⟩ dd_X8_layRule_67, ?_⟩
  refine List.forall_mem_cons.mpr ⟨ok_iadd hx hb dd_X8_layRule_70, ?_⟩
  refine List.forall_mem_cons.mpr ⟨ok_putI (j := 7) hx hb hts zi_X8 tyX8 tyX8_ok nmX8 hown hK hD zc_X8 (by decide) rfl rfl (by decide +kernel) (fun t fl h => by cases h; rfl) (hts _ wd_847) dd_X8_layRule_71, ?_⟩
  refine List.forall_mem_cons.mpr ⟨ok_aload_n hx hb rfl dd_X8_layRule_74, ?_⟩
  refine List.forall_mem_cons.mpr ⟨ok_dup hx hb dd_X8_layRule_75, ?_⟩
  refine List.forall_mem_cons.mpr ⟨ok_getI (j := 8) hx hb hts zi_X8 hown hK zc_X8 (by decide) rfl (fun t fl h => by cases h; rfl) (hts _ wd_848) dd_X8_layRule_76, ?_⟩
  refine List.forall_mem_cons.mpr ⟨ok_iconst hx hb dd_X8_layRule_79 (by decide), ?_⟩
  refine List.forall_mem_cons.mpr ⟨ok_aload_n hx hb rfl dd_X8_layRule_80, ?_⟩
  refine List.forall_mem_cons.mpr ⟨ok_iload_n hx hb rfl dd_X8_layRule_81, ?_⟩
  refine List.forall_mem_cons.mpr ⟨ok_iload hx hb dd_X8_layRule_82, ?_⟩
  refine List.forall_mem_cons.mpr ⟨ok_iconst hx hb dd_X8_layRule_84 (by decide), ?_⟩
  refine List.forall_mem_cons.mpr ⟨ok_callV (n := 3) zc_X8 rv_X8_hands C0 (h_X8_hands (d + 5) (by omega)) (by decide) wd_1008 wd_1005 wd_1007 wd_69 wd_107 ⟨rfl, by decide +kernel, by decide +kernel, by decide +kernel⟩ dd_X8_layRule_85, ?_⟩
  refine List.forall_mem_cons.mpr ⟨ok_isub hx hb dd_X8_layRule_88, ?_⟩
  refine List.forall_mem_cons.mpr ⟨ok_iadd hx hb dd_X8_layRule_89, ?_⟩
  refine List.forall_mem_cons.mpr ⟨ok_putI (j := 8) hx hb hts zi_X8 tyX8 tyX8_ok nmX8 hown hK hD zc_X8 (by decide) rfl rfl (by decide +kernel) (fun t fl h => by cases h; rfl) (hts _ wd_848) dd_X8_layRule_90, ?_⟩
  refine List.forall_mem_cons.mpr ⟨ok_iinc hx hb dd_X8_layRule_93 (by decide), ?_⟩
  refine List.forall_mem_cons.mpr ⟨ok_goto hx hb dd_X8_layRule_96 (by decide), ?_⟩
  refine List.forall_mem_cons.mpr ⟨ok_iinc hx hb dd_X8_layRule_99 (by decide), ?_⟩
  refine List.forall_mem_cons.mpr ⟨ok_goto hx hb dd_X8_layRule_102 (by decide), ?_⟩
  refine List.forall_mem_cons.mpr ⟨ok_vret hx hb hr hlocks hQ dd_X8_layRule_105, ?_⟩
  exact fun _ h => absurd h List.not_mem_nil
set_option maxRecDepth 100000 in
theorem vc_X8_layRule_0 {kd : Nat → Nat} {K : zK} {X : zX} (hX : ∀ (n pc : Nat) (ls : zLS) (st : List zV) (M : zM), zrun (tb_X8_layRule kd K) [(12, [4]), (21, [])] n X pc ls st M → X pc ls st M) {g : Int32} {y : Int32} {M : zM} (hk0 : kd 9 = 8) (h : ∀ M1 : zM, (M1 = zmw M 9 0 (upd (M.1 9 0) 7 (0 : Int32))) → ∀ M2 : zM, (M2 = zmw M1 9 0 (upd (M1.1 9 0) 8 (0 : Int32))) → X 12 [some (zR 9 0), some (zI (g)), some (zI (y)), some (zI ((0 : Int32))), none] [] M2) : X 0 [some (zR 9 0), some (zI (g)), some (zI (y)), none, none] [] M := hX 10 0 _ [] M (show (kd 9 = 8) ∧ ∀ M1 : zM, (M1 = zmw M 9 0 (upd (M.1 9 0) 7 (0 : Int32))) → (kd 9 = 8) ∧ ∀ M2 : zM, (M2 = zmw M1 9 0 (upd (M1.1 9 0) 8 (0 : Int32))) → X 12 [some (zR 9 0), some (zI (g)), some (zI (y)), some (zI ((0 : Int32))), none] [] M2 from ⟨hk0, fun M1 => have h := h M1; fun q => have h := h q; ⟨hk0, fun M2 => have h := h M2; fun q => have h := h q; h⟩⟩)
set_option maxRecDepth 100000 in
theorem vc_X8_layRule_12 {kd : Nat → Nat} {K : zK} {X : zX} (hX : ∀ (n pc : Nat) (ls : zLS) (st : List zV) (M : zM), zrun (tb_X8_layRule kd K) [(12, [4]), (21, [])] n X pc ls st M → X pc ls st M) {g : Int32} {y : Int32} {c : Int32} {M : zM}  (h : (((6 : Int32) ≤ c) → K none M) ∧ ((¬ (6 : Int32) ≤ c) → X 21 [some (zR 9 0), some (zI (g)), some (zI (y)), some (zI (c)), some (zI ((0 : Int32)))] [] M)) : X 12 [some (zR 9 0), some (zI (g)), some (zI (y)), some (zI (c)), none] [] M := hX 7 12 _ [] M (show (((6 : Int32) ≤ c) → K none M) ∧ ((¬ (6 : Int32) ≤ c) → X 21 [some (zR 9 0), some (zI (g)), some (zI (y)), some (zI (c)), some (zI ((0 : Int32)))] [] M) from ⟨fun q => have h := h.1 q; h, fun q => have h := h.2 q; h⟩)
set_option maxRecDepth 100000 in
theorem vc_X8_layRule_21 {kd : Nat → Nat} {K : zK} {X : zX} (hX : ∀ (n pc : Nat) (ls : zLS) (st : List zV) (M : zM), zrun (tb_X8_layRule kd K) [(12, [4]), (21, [])] n X pc ls st M → X pc ls st M) {g : Int32} {y : Int32} {c : Int32} {i : Int32} {M : zM} (hk0 : kd 9 = 8) (h : (zin (kd 9) 5 0 ((0 : Int32) + c)) ∧ (((M.1 9 5 ((0 : Int32) + c).toNatClampNeg) ≤ i) → X 12 [some (zR 9 0), some (zI (g)), some (zI (y)), some (zI (c + 1)), none] [] M) ∧ ((¬ (M.1 9 5 ((0 : Int32) + c).toNatClampNeg) ≤ i) → ∃ a1 : Sk, (RpF (M.1 9 5) a1) ∧ ∃ l1 : Ly, (sk_at a1 c.toInt i.toInt = some l1) ∧ (0 ≤ (1 : Int32).toInt ∧ (1 : Int32).toInt < 5) ∧ ∀ v1 : Int32, (v1.toInt = ly_f l1 (1 : Int32).toInt) → ((¬ v1 = g) → X 21 [some (zR 9 0), some (zI (g)), some (zI (y)), some (zI (c)), some (zI (i + 1))] [] M) ∧ ((v1 = g) → ∃ a2 : Sk, (RpF (M.1 9 5) a2) ∧ (¬ sk_at a2 c.toInt i.toInt = none) ∧ (0 ≤ y.toInt ∧ y.toInt < 1000000) ∧ ∀ v2 : Int32, (v2 = zp (sk_bd a2 c.toInt i.toInt y.toInt = true)) → ((v2 = 0) → X 21 [some (zR 9 0), some (zI (g)), some (zI (y)), some (zI (c)), some (zI (i + 1))] [] M) ∧ ((¬ v2 = 0) → ∃ a3 : Sk, (RpF (M.1 9 5) a3) ∧ ∃ l3 : Ly, (sk_at a3 c.toInt i.toInt = some l3) ∧ (0 ≤ (2 : Int32).toInt ∧ (2 : Int32).toInt < 5) ∧ ∀ v3 : Int32, (v3.toInt = ly_f l3 (2 : Int32).toInt) → ∀ M4 : zM, (M4 = zmw M 9 0 (upd (M.1 9 0) 7 ((M.1 9 0 7) + v3))) → ∃ a5 : Sk, (RpF (M4.1 9 5) a5) ∧ ∃ l5 : Ly, (sk_at a5 c.toInt i.toInt = some l5) ∧ (0 ≤ (2 : Int32).toInt ∧ (2 : Int32).toInt < 5) ∧ ∀ v5 : Int32, (v5.toInt = ly_f l5 (2 : Int32).toInt) → ∀ M6 : zM, (M6 = zmw M4 9 0 (upd (M4.1 9 0) 8 ((M4.1 9 0 8) + ((1 : Int32) - v5)))) → X 21 [some (zR 9 0), some (zI (g)), some (zI (y)), some (zI (c)), some (zI (i + 1))] [] M6)))) : X 21 [some (zR 9 0), some (zI (g)), some (zI (y)), some (zI (c)), some (zI (i))] [] M := hX 47 21 _ [] M (show (kd 9 = 8) ∧ (zin (kd 9) 5 0 ((0 : Int32) + c)) ∧ (((M.1 9 5 ((0 : Int32) + c).toNatClampNeg) ≤ i) → X 12 [some (zR 9 0), some (zI (g)), some (zI (y)), some (zI (c + 1)), none] [] M) ∧ ((¬ (M.1 9 5 ((0 : Int32) + c).toNatClampNeg) ≤ i) → (kd 9 = 8) ∧ ∃ a1 : Sk, (RpF (M.1 9 5) a1) ∧ ∃ l1 : Ly, (sk_at a1 c.toInt i.toInt = some l1) ∧ (0 ≤ (1 : Int32).toInt ∧ (1 : Int32).toInt < 5) ∧ ∀ v1 : Int32, (v1.toInt = ly_f l1 (1 : Int32).toInt) → ((¬ v1 = g) → X 21 [some (zR 9 0), some (zI (g)), some (zI (y)), some (zI (c)), some (zI (i + 1))] [] M) ∧ ((v1 = g) → (kd 9 = 8) ∧ ∃ a2 : Sk, (RpF (M.1 9 5) a2) ∧ (¬ sk_at a2 c.toInt i.toInt = none) ∧ (0 ≤ y.toInt ∧ y.toInt < 1000000) ∧ ∀ v2 : Int32, (v2 = zp (sk_bd a2 c.toInt i.toInt y.toInt = true)) → ((v2 = 0) → X 21 [some (zR 9 0), some (zI (g)), some (zI (y)), some (zI (c)), some (zI (i + 1))] [] M) ∧ ((¬ v2 = 0) → (kd 9 = 8) ∧ (kd 9 = 8) ∧ ∃ a3 : Sk, (RpF (M.1 9 5) a3) ∧ ∃ l3 : Ly, (sk_at a3 c.toInt i.toInt = some l3) ∧ (0 ≤ (2 : Int32).toInt ∧ (2 : Int32).toInt < 5) ∧ ∀ v3 : Int32, (v3.toInt = ly_f l3 (2 : Int32).toInt) → (kd 9 = 8) ∧ ∀ M4 : zM, (M4 = zmw M 9 0 (upd (M.1 9 0) 7 ((M.1 9 0 7) + v3))) → (kd 9 = 8) ∧ (kd 9 = 8) ∧ ∃ a5 : Sk, (RpF (M4.1 9 5) a5) ∧ ∃ l5 : Ly, (sk_at a5 c.toInt i.toInt = some l5) ∧ (0 ≤ (2 : Int32).toInt ∧ (2 : Int32).toInt < 5) ∧ ∀ v5 : Int32, (v5.toInt = ly_f l5 (2 : Int32).toInt) → (kd 9 = 8) ∧ ∀ M6 : zM, (M6 = zmw M4 9 0 (upd (M4.1 9 0) 8 ((M4.1 9 0 8) + ((1 : Int32) - v5)))) → X 21 [some (zR 9 0), some (zI (g)), some (zI (y)), some (zI (c)), some (zI (i + 1))] [] M6))) from ⟨hk0, ⟨h.1, have h := h.2; ⟨fun q => have h := h.1 q; h, fun q => have h := h.2 q; ⟨hk0, h.elim (fun a1 h => ⟨a1, ⟨h.1, have h := h.2; h.elim (fun l1 h => ⟨l1, ⟨h.1, have h := h.2; ⟨h.1, have h := h.2; fun v1 => have h := h v1; fun q => have h := h q; ⟨fun q => have h := h.1 q; h, fun q => have h := h.2 q; ⟨hk0, h.elim (fun a2 h => ⟨a2, ⟨h.1, have h := h.2; ⟨h.1, have h := h.2; ⟨h.1, have h := h.2; fun v2 => have h := h v2; fun q => have h := h q; ⟨fun q => have h := h.1 q; h, fun q => have h := h.2 q; ⟨hk0, ⟨hk0, h.elim (fun a3 h => ⟨a3, ⟨h.1, have h := h.2; h.elim (fun l3 h => ⟨l3, ⟨h.1, have h := h.2; ⟨h.1, have h := h.2; fun v3 => have h := h v3; fun q => have h := h q; ⟨hk0, fun M4 => have h := h M4; fun q => have h := h q; ⟨hk0, ⟨hk0, h.elim (fun a5 h => ⟨a5, ⟨h.1, have h := h.2; h.elim (fun l5 h => ⟨l5, ⟨h.1, have h := h.2; ⟨h.1, have h := h.2; fun v5 => have h := h v5; fun q => have h := h q; ⟨hk0, fun M6 => have h := h M6; fun q => have h := h q; h⟩⟩⟩⟩)⟩⟩)⟩⟩⟩⟩⟩⟩)⟩⟩)⟩⟩⟩⟩⟩⟩⟩)⟩⟩⟩⟩⟩)⟩⟩)⟩⟩⟩⟩)
def sp_X8_ruleOf : zSpec := fun kd as M K => match as with
  | [.inr (.inr (.inl (9, 0))), .inl g, .inl y] => (kd 9 = 8) ∧ ∃ a : Sk, (RpF (M.1 9 5) a) ∧ (0 ≤ y.toInt ∧ y.toInt < 1000000) ∧ ∀ v : Int32, (v.toInt = sk_law a g.toInt y.toInt) → ∀ f : Nat → Int32, ((f 7).toInt = sk_N a g.toInt 1 y.toInt ∧ (f 8).toInt = sk_N a g.toInt 0 y.toInt ∧ ∀ j9, j9 ≠ 7 → j9 ≠ 8 → f j9 = M.1 9 0 j9) → ∀ M' : zM, (M' = zmw M 9 0 f) → K (some (.inl v)) M'
  | _ => False
theorem rv_X8_ruleOf : zrv sp_X8_ruleOf 8 2 := by
  intro kd as M K h
  unfold sp_X8_ruleOf at h
  split at h
  · exact ⟨_, _, rfl, h.1⟩
  · exact h.elim
theorem dd_X8_ruleOf_0 : decode cX8_ruleOf 0 = .ok (.aload_n 0, 1) := by decide +kernel
theorem dd_X8_ruleOf_1 : decode cX8_ruleOf 1 = .ok (.iload_n 1, 1) := by decide +kernel
theorem dd_X8_ruleOf_2 : decode cX8_ruleOf 2 = .ok (.iload_n 2, 1) := by decide +kernel
theorem dd_X8_ruleOf_3 : decode cX8_ruleOf 3 = .ok (.invokevirtual 134, 3) := by decide +kernel
theorem dd_X8_ruleOf_6 : decode cX8_ruleOf 6 = .ok (.aload_n 0, 1) := by decide +kernel
theorem dd_X8_ruleOf_7 : decode cX8_ruleOf 7 = .ok (.getfield 123, 3) := by decide +kernel
theorem dd_X8_ruleOf_10 : decode cX8_ruleOf 10 = .ok (.ifCond .le 7, 3) := by decide +kernel
theorem dd_X8_ruleOf_13 : decode cX8_ruleOf 13 = .ok (.iconst 1, 1) := by decide +kernel
theorem dd_X8_ruleOf_14 : decode cX8_ruleOf 14 = .ok (.goto 4, 3) := by decide +kernel
theorem dd_X8_ruleOf_17 : decode cX8_ruleOf 17 = .ok (.iconst 0, 1) := by decide +kernel
theorem dd_X8_ruleOf_18 : decode cX8_ruleOf 18 = .ok (.aload_n 0, 1) := by decide +kernel
theorem dd_X8_ruleOf_19 : decode cX8_ruleOf 19 = .ok (.getfield 127, 3) := by decide +kernel
theorem dd_X8_ruleOf_22 : decode cX8_ruleOf 22 = .ok (.ifCond .le 7, 3) := by decide +kernel
theorem dd_X8_ruleOf_25 : decode cX8_ruleOf 25 = .ok (.iconst 2, 1) := by decide +kernel
theorem dd_X8_ruleOf_26 : decode cX8_ruleOf 26 = .ok (.goto 4, 3) := by decide +kernel
theorem dd_X8_ruleOf_29 : decode cX8_ruleOf 29 = .ok (.iconst 0, 1) := by decide +kernel
theorem dd_X8_ruleOf_30 : decode cX8_ruleOf 30 = .ok (.iadd, 1) := by decide +kernel
theorem dd_X8_ruleOf_31 : decode cX8_ruleOf 31 = .ok (.ireturn, 1) := by decide +kernel
def tb_X8_ruleOf (kd : Nat → Nat) (K : zK) : zTab := [(0, zt_aload 0 1), (1, zt_iload 1 2), (2, zt_iload 2 3), (3, zt_call kd sp_X8_layRule 3 6), (6, zt_aload 0 7), (7, zt_getI kd 8 7 10), (10, zt_if (fun x => x ≤ 0) (fun x => ¬ x ≤ 0) 17 13), (13, zt_const (zI 1) 14), (14, zt_goto 18), (17, zt_const (zI 0) 18), (18, zt_aload 0 19), (19, zt_getI kd 8 8 22), (22, zt_if (fun x => x ≤ 0) (fun x => ¬ x ≤ 0) 29 25), (25, zt_const (zI 2) 26), (26, zt_goto 30), (29, zt_const (zI 0) 30), (30, zt_bin (fun x y => x + y) 31), (31, zt_iret K)]
set_option maxRecDepth 20000 in
theorem tk_X8_ruleOf (d : Nat) (h_X8_layRule : zMS 6 yX8_layRule cX8_layRule 5 none sp_X8_layRule) : zTrue RX8 cX8_ruleOf 3 (some .int) (d + 7) (fun kd K => tb_X8_ruleOf kd K) := by
  intro p l e R s m args below meth c D cy A ad bl Qm K C0 hr hlocks hQ
  obtain ⟨hx, hb, hml, hown, hts, hK, hD, hA0, hN, hE, ⟨hR1, hR2⟩, hc1, hc2⟩ := id C0
  unfold tb_X8_ruleOf
  refine List.forall_mem_cons.mpr ⟨ok_aload_n hx hb rfl dd_X8_ruleOf_0, ?_⟩
  refine List.forall_mem_cons.mpr ⟨ok_iload_n hx hb rfl dd_X8_ruleOf_1, ?_⟩
  refine List.forall_mem_cons.mpr ⟨ok_iload_n hx hb rfl dd_X8_ruleOf_2, ?_⟩
  refine List.forall_mem_cons.mpr ⟨ok_callV (n := 2) zc_X8 rv_X8_layRule C0 (h_X8_layRule (d + 6) (by omega)) (by decide) wd_1028 wd_1025 wd_1027 wd_73 wd_107 ⟨rfl, by decide +kernel, by decide +kernel, by decide +kernel⟩ dd_X8_ruleOf_3, ?_⟩
  refine List.forall_mem_cons.mpr ⟨ok_aload_n hx hb rfl dd_X8_ruleOf_6, ?_⟩
  refine List.forall_mem_cons.mpr ⟨ok_getI (j := 7) hx hb hts zi_X8 hown hK zc_X8 (by decide) rfl (fun t fl h => by cases h; rfl) (hts _ wd_847) dd_X8_ruleOf_7, ?_⟩
  refine List.forall_mem_cons.mpr ⟨ok_if_le hx hb dd_X8_ruleOf_10 (by decide), ?_⟩
  refine List.forall_mem_cons.mpr ⟨ok_iconst hx hb dd_X8_ruleOf_13 (by decide), ?_⟩
  refine List.forall_mem_cons.mpr ⟨ok_goto hx hb dd_X8_ruleOf_14 (by decide), ?_⟩
  refine List.forall_mem_cons.mpr ⟨ok_iconst hx hb dd_X8_ruleOf_17 (by decide), ?_⟩
  refine List.forall_mem_cons.mpr ⟨ok_aload_n hx hb rfl dd_X8_ruleOf_18, ?_⟩
  refine List.forall_mem_cons.mpr ⟨ok_getI (j := 8) hx hb hts zi_X8 hown hK zc_X8 (by decide) rfl (fun t fl h => by cases h; rfl) (hts _ wd_848) dd_X8_ruleOf_19, ?_⟩
  refine List.forall_mem_cons.mpr ⟨ok_if_le hx hb dd_X8_ruleOf_22 (by decide), ?_⟩
  refine List.forall_mem_cons.mpr ⟨ok_iconst hx hb dd_X8_ruleOf_25 (by decide), ?_⟩
  refine List.forall_mem_cons.mpr ⟨ok_goto hx hb dd_X8_ruleOf_26 (by decide), ?_⟩
  refine List.forall_mem_cons.mpr ⟨ok_iconst hx hb dd_X8_ruleOf_29 (by decide), ?_⟩
  refine List.forall_mem_cons.mpr ⟨ok_iadd hx hb dd_X8_ruleOf_30, ?_⟩
  refine List.forall_mem_cons.mpr ⟨ok_iret hx hb hr hlocks hQ dd_X8_ruleOf_31, ?_⟩
  exact fun _ h => absurd h List.not_mem_nil
set_option maxRecDepth 100000 in
theorem vc_X8_ruleOf_0 {kd : Nat → Nat} {K : zK} {X : zX} (hX : ∀ (n pc : Nat) (ls : zLS) (st : List zV) (M : zM), zrun (tb_X8_ruleOf kd K) [] n X pc ls st M → X pc ls st M) {g : Int32} {y : Int32} {M : zM} (hk0 : kd 9 = 8) (h : ∃ a1 : Sk, (RpF (M.1 9 5) a1) ∧ (0 ≤ y.toInt ∧ y.toInt < 1000000) ∧ ∀ f1 : Nat → Int32, ((f1 7).toInt = sk_N a1 g.toInt 1 y.toInt ∧ (f1 8).toInt = sk_N a1 g.toInt 0 y.toInt ∧ ∀ j9, j9 ≠ 7 → j9 ≠ 8 → f1 j9 = M.1 9 0 j9) → ∀ M1 : zM, (M1 = zmw M 9 0 f1) → (((M1.1 9 0 7) ≤ 0) → (((M1.1 9 0 8) ≤ 0) → K (some (zI ((0 : Int32) + (0 : Int32)))) M1) ∧ ((¬ (M1.1 9 0 8) ≤ 0) → K (some (zI ((0 : Int32) + (2 : Int32)))) M1)) ∧ ((¬ (M1.1 9 0 7) ≤ 0) → (((M1.1 9 0 8) ≤ 0) → K (some (zI ((1 : Int32) + (0 : Int32)))) M1) ∧ ((¬ (M1.1 9 0 8) ≤ 0) → K (some (zI ((1 : Int32) + (2 : Int32)))) M1))) : X 0 [some (zR 9 0), some (zI (g)), some (zI (y))] [] M := hX 17 0 _ [] M (show (kd 9 = 8) ∧ ∃ a1 : Sk, (RpF (M.1 9 5) a1) ∧ (0 ≤ y.toInt ∧ y.toInt < 1000000) ∧ ∀ f1 : Nat → Int32, ((f1 7).toInt = sk_N a1 g.toInt 1 y.toInt ∧ (f1 8).toInt = sk_N a1 g.toInt 0 y.toInt ∧ ∀ j9, j9 ≠ 7 → j9 ≠ 8 → f1 j9 = M.1 9 0 j9) → ∀ M1 : zM, (M1 = zmw M 9 0 f1) → (kd 9 = 8) ∧ (((M1.1 9 0 7) ≤ 0) → (kd 9 = 8) ∧ (((M1.1 9 0 8) ≤ 0) → K (some (zI ((0 : Int32) + (0 : Int32)))) M1) ∧ ((¬ (M1.1 9 0 8) ≤ 0) → K (some (zI ((0 : Int32) + (2 : Int32)))) M1)) ∧ ((¬ (M1.1 9 0 7) ≤ 0) → (kd 9 = 8) ∧ (((M1.1 9 0 8) ≤ 0) → K (some (zI ((1 : Int32) + (0 : Int32)))) M1) ∧ ((¬ (M1.1 9 0 8) ≤ 0) → K (some (zI ((1 : Int32) + (2 : Int32)))) M1)) from ⟨hk0, h.elim (fun a1 h => ⟨a1, ⟨h.1, have h := h.2; ⟨h.1, have h := h.2; fun f1 => have h := h f1; fun q => have h := h q; fun M1 => have h := h M1; fun q => have h := h q; ⟨hk0, ⟨fun q => have h := h.1 q; ⟨hk0, ⟨fun q => have h := h.1 q; h, fun q => have h := h.2 q; h⟩⟩, fun q => have h := h.2 q; ⟨hk0, ⟨fun q => have h := h.1 q; h, fun q => have h := h.2 q; h⟩⟩⟩⟩⟩⟩⟩)⟩)
def sp_X8_quarrels : zSpec := fun kd as M K => match as with
  | [.inr (.inr (.inl (9, 0))), .inl y] => (kd 9 = 8) ∧ ∃ a : Sk, (RpF (M.1 9 5) a) ∧ (0 ≤ y.toInt ∧ y.toInt < 1000000) ∧ ∀ v : Int32, (v.toInt = sk_qu a y.toInt) → ∀ f : Nat → Int32, (∀ j9, j9 ≠ 7 → j9 ≠ 8 → f j9 = M.1 9 0 j9) → ∀ M' : zM, (M' = zmw M 9 0 f) → K (some (.inl v)) M'
  | _ => False
theorem rv_X8_quarrels : zrv sp_X8_quarrels 8 1 := by
  intro kd as M K h
  unfold sp_X8_quarrels at h
  split at h
  · exact ⟨_, _, rfl, h.1⟩
  · exact h.elim
theorem dd_X8_quarrels_0 : decode cX8_quarrels 0 = .ok (.iconst 0, 1) := by decide +kernel
theorem dd_X8_quarrels_1 : decode cX8_quarrels 1 = .ok (.istore_n 2, 1) := by decide +kernel
theorem dd_X8_quarrels_2 : decode cX8_quarrels 2 = .ok (.iconst 0, 1) := by decide +kernel
theorem dd_X8_quarrels_3 : decode cX8_quarrels 3 = .ok (.istore_n 3, 1) := by decide +kernel
theorem dd_X8_quarrels_4 : decode cX8_quarrels 4 = .ok (.iload_n 3, 1) := by decide +kernel
theorem dd_X8_quarrels_5 : decode cX8_quarrels 5 = .ok (.iconst 5, 1) := by decide +kernel
theorem dd_X8_quarrels_6 : decode cX8_quarrels 6 = .ok (.if_icmp .ge 27, 3) := by decide +kernel
theorem dd_X8_quarrels_9 : decode cX8_quarrels 9 = .ok (.iload_n 2, 1) := by decide +kernel
theorem dd_X8_quarrels_10 : decode cX8_quarrels 10 = .ok (.aload_n 0, 1) := by decide +kernel
theorem dd_X8_quarrels_11 : decode cX8_quarrels 11 = .ok (.iload_n 3, 1) := by decide +kernel
theorem dd_X8_quarrels_12 : decode cX8_quarrels 12 = .ok (.iload_n 1, 1) := by decide +kernel
theorem dd_X8_quarrels_13 : decode cX8_quarrels 13 = .ok (.invokevirtual 138, 3) := by decide +kernel
theorem dd_X8_quarrels_16 : decode cX8_quarrels 16 = .ok (.iconst 3, 1) := by decide +kernel
theorem dd_X8_quarrels_17 : decode cX8_quarrels 17 = .ok (.if_icmp .ne 7, 3) := by decide +kernel
theorem dd_X8_quarrels_20 : decode cX8_quarrels 20 = .ok (.iconst 1, 1) := by decide +kernel
theorem dd_X8_quarrels_21 : decode cX8_quarrels 21 = .ok (.goto 4, 3) := by decide +kernel
theorem dd_X8_quarrels_24 : decode cX8_quarrels 24 = .ok (.iconst 0, 1) := by decide +kernel
theorem dd_X8_quarrels_25 : decode cX8_quarrels 25 = .ok (.iadd, 1) := by decide +kernel
theorem dd_X8_quarrels_26 : decode cX8_quarrels 26 = .ok (.istore_n 2, 1) := by decide +kernel
theorem dd_X8_quarrels_27 : decode cX8_quarrels 27 = .ok (.iinc 3 1, 3) := by decide +kernel
theorem dd_X8_quarrels_30 : decode cX8_quarrels 30 = .ok (.goto (-26), 3) := by decide +kernel
theorem dd_X8_quarrels_33 : decode cX8_quarrels 33 = .ok (.iload_n 2, 1) := by decide +kernel
theorem dd_X8_quarrels_34 : decode cX8_quarrels 34 = .ok (.ireturn, 1) := by decide +kernel
def tb_X8_quarrels (kd : Nat → Nat) (K : zK) : zTab := [(0, zt_const (zI 0) 1), (1, zt_istore 2 2), (2, zt_const (zI 0) 3), (3, zt_istore 3 4), (4, zt_iload 3 5), (5, zt_const (zI 5) 6), (6, zt_icmp (fun x y => y ≤ x) (fun x y => ¬ y ≤ x) 33 9), (9, zt_iload 2 10), (10, zt_aload 0 11), (11, zt_iload 3 12), (12, zt_iload 1 13), (13, zt_call kd sp_X8_ruleOf 3 16), (16, zt_const (zI 3) 17), (17, zt_icmp (fun x y => ¬ x = y) (fun x y => x = y) 24 20), (20, zt_const (zI 1) 21), (21, zt_goto 25), (24, zt_const (zI 0) 25), (25, zt_bin (fun x y => x + y) 26), (26, zt_istore 2 27), (27, zt_iinc 3 1 30), (30, zt_goto 4), (33, zt_iload 2 34), (34, zt_iret K)]
set_option maxRecDepth 20000 in
theorem tk_X8_quarrels (d : Nat) (h_X8_ruleOf : zMS 7 yX8_ruleOf cX8_ruleOf 3 (some .int) sp_X8_ruleOf) : zTrue RX8 cX8_quarrels 4 (some .int) (d + 8) (fun kd K => tb_X8_quarrels kd K) := by
  intro p l e R s m args below meth c D cy A ad bl Qm K C0 hr hlocks hQ
  obtain ⟨hx, hb, hml, hown, hts, hK, hD, hA0, hN, hE, ⟨hR1, hR2⟩, hc1, hc2⟩ := id C0
  unfold tb_X8_quarrels
  refine List.forall_mem_cons.mpr ⟨ok_iconst hx hb dd_X8_quarrels_0 (by decide), ?_⟩
  refine List.forall_mem_cons.mpr ⟨ok_istore_n hx hb rfl dd_X8_quarrels_1, ?_⟩
  refine List.forall_mem_cons.mpr ⟨ok_iconst hx hb dd_X8_quarrels_2 (by decide), ?_⟩
  refine List.forall_mem_cons.mpr ⟨ok_istore_n hx hb rfl dd_X8_quarrels_3, ?_⟩
  refine List.forall_mem_cons.mpr ⟨ok_iload_n hx hb rfl dd_X8_quarrels_4, ?_⟩
  refine List.forall_mem_cons.mpr ⟨ok_iconst hx hb dd_X8_quarrels_5 (by decide), ?_⟩
  refine List.forall_mem_cons.mpr ⟨ok_icmp_ge hx hb dd_X8_quarrels_6 (by decide), ?_⟩
  refine List.forall_mem_cons.mpr ⟨ok_iload_n hx hb rfl dd_X8_quarrels_9, ?_⟩
  refine List.forall_mem_cons.mpr ⟨ok_aload_n hx hb rfl dd_X8_quarrels_10, ?_⟩
  refine List.forall_mem_cons.mpr ⟨ok_iload_n hx hb rfl dd_X8_quarrels_11, ?_⟩
  refine List.forall_mem_cons.mpr ⟨ok_iload_n hx hb rfl dd_X8_quarrels_12, ?_⟩
  refine List.forall_mem_cons.mpr ⟨ok_callV (n := 2) zc_X8 rv_X8_ruleOf C0 (h_X8_ruleOf (d + 7) (by omega)) (by decide) wd_1024 wd_1021 wd_1023 wd_72 wd_107 ⟨rfl, by decide +kernel, by decide +kernel, by decide +kernel⟩ dd_X8_quarrels_13, ?_⟩
  refine List.forall_mem_cons.mpr ⟨ok_iconst hx hb dd_X8_quarrels_16 (by decide), ?_⟩
  refine List.forall_mem_cons.mpr ⟨ok_icmp_ne hx hb dd_X8_quarrels_17 (by decide), ?_⟩
  refine List.forall_mem_cons.mpr ⟨ok_iconst hx hb dd_X8_quarrels_20 (by decide), ?_⟩
  refine List.forall_mem_cons.mpr ⟨ok_goto hx hb dd_X8_quarrels_21 (by decide), ?_⟩
  refine List.forall_mem_cons.mpr ⟨ok_iconst hx hb dd_X8_quarrels_24 (by decide), ?_⟩
  refine List.forall_mem_cons.mpr ⟨ok_iadd hx hb dd_X8_quarrels_25, ?_⟩
  refine List.forall_mem_cons.mpr ⟨ok_istore_n hx hb rfl dd_X8_quarrels_26, ?_⟩
  refine List.forall_mem_cons.mpr ⟨ok_iinc hx hb dd_X8_quarrels_27 (by decide), ?_⟩
  refine List.forall_mem_cons.mpr ⟨ok_goto hx hb dd_X8_quarrels_30 (by decide), ?_⟩
  refine List.forall_mem_cons.mpr ⟨ok_iload_n hx hb rfl dd_X8_quarrels_33, ?_⟩
  refine List.forall_mem_cons.mpr ⟨ok_iret hx hb hr hlocks hQ dd_X8_quarrels_34, ?_⟩
  exact fun _ h => absurd h List.not_mem_nil
set_option maxRecDepth 100000 in
theorem vc_X8_quarrels_0 {kd : Nat → Nat} {K : zK} {X : zX} (hX : ∀ (n pc : Nat) (ls : zLS) (st : List zV) (M : zM), zrun (tb_X8_quarrels kd K) [(4, [])] n X pc ls st M → X pc ls st M) {y : Int32} {M : zM}  (h : X 4 [some (zR 9 0), some (zI (y)), some (zI ((0 : Int32))), some (zI ((0 : Int32)))] [] M) : X 0 [some (zR 9 0), some (zI (y)), none, none] [] M := hX 6 0 _ [] M (show X 4 [some (zR 9 0), some (zI (y)), some (zI ((0 : Int32))), some (zI ((0 : Int32)))] [] M from h)
set_option maxRecDepth 100000 in
theorem vc_X8_quarrels_4 {kd : Nat → Nat} {K : zK} {X : zX} (hX : ∀ (n pc : Nat) (ls : zLS) (st : List zV) (M : zM), zrun (tb_X8_quarrels kd K) [(4, [])] n X pc ls st M → X pc ls st M) {y : Int32} {n : Int32} {g : Int32} {M : zM} (hk0 : kd 9 = 8) (h : (((5 : Int32) ≤ g) → K (some (zI (n))) M) ∧ ((¬ (5 : Int32) ≤ g) → ∃ a1 : Sk, (RpF (M.1 9 5) a1) ∧ (0 ≤ y.toInt ∧ y.toInt < 1000000) ∧ ∀ v1 : Int32, (v1.toInt = sk_law a1 g.toInt y.toInt) → ∀ f1 : Nat → Int32, ((f1 7).toInt = sk_N a1 g.toInt 1 y.toInt ∧ (f1 8).toInt = sk_N a1 g.toInt 0 y.toInt ∧ ∀ j9, j9 ≠ 7 → j9 ≠ 8 → f1 j9 = M.1 9 0 j9) → ∀ M1 : zM, (M1 = zmw M 9 0 f1) → ((¬ v1 = (3 : Int32)) → X 4 [some (zR 9 0), some (zI (y)), some (zI (n + (0 : Int32))), some (zI (g + 1))] [] M1) ∧ ((v1 = (3 : Int32)) → X 4 [some (zR 9 0), some (zI (y)), some (zI (n + (1 : Int32))), some (zI (g + 1))] [] M1))) : X 4 [some (zR 9 0), some (zI (y)), some (zI (n)), some (zI (g))] [] M := hX 18 4 _ [] M (show (((5 : Int32) ≤ g) → K (some (zI (n))) M) ∧ ((¬ (5 : Int32) ≤ g) → (kd 9 = 8) ∧ ∃ a1 : Sk, (RpF (M.1 9 5) a1) ∧ (0 ≤ y.toInt ∧ y.toInt < 1000000) ∧ ∀ v1 : Int32, (v1.toInt = sk_law a1 g.toInt y.toInt) → ∀ f1 : Nat → Int32, ((f1 7).toInt = sk_N a1 g.toInt 1 y.toInt ∧ (f1 8).toInt = sk_N a1 g.toInt 0 y.toInt ∧ ∀ j9, j9 ≠ 7 → j9 ≠ 8 → f1 j9 = M.1 9 0 j9) → ∀ M1 : zM, (M1 = zmw M 9 0 f1) → ((¬ v1 = (3 : Int32)) → X 4 [some (zR 9 0), some (zI (y)), some (zI (n + (0 : Int32))), some (zI (g + 1))] [] M1) ∧ ((v1 = (3 : Int32)) → X 4 [some (zR 9 0), some (zI (y)), some (zI (n + (1 : Int32))), some (zI (g + 1))] [] M1)) from ⟨fun q => have h := h.1 q; h, fun q => have h := h.2 q; ⟨hk0, h.elim (fun a1 h => ⟨a1, ⟨h.1, have h := h.2; ⟨h.1, have h := h.2; fun v1 => have h := h v1; fun q => have h := h q; fun f1 => have h := h f1; fun q => have h := h q; fun M1 => have h := h M1; fun q => have h := h q; ⟨fun q => have h := h.1 q; h, fun q => have h := h.2 q; h⟩⟩⟩⟩)⟩⟩)
def sp_X8_laySkin : zSpec := fun kd as M K => match as with
  | [.inr (.inr (.inl (9, 0))), .inl t] => (kd 9 = 8) ∧ (0 ≤ t.toInt ∧ t.toInt < 4) ∧ ∀ f : Nat → Int32, (∀ j9, j9 < 127 → f (127 * t.toInt.toNat + j9) = M.1 9 5 j9) → (∀ j9, (j9 < 127 * t.toInt.toNat ∨ 127 * t.toInt.toNat + 127 ≤ j9) → f j9 = M.1 9 6 j9) → ∀ M' : zM, (M' = zmw M 9 6 f) → K none M'
  | _ => False
theorem rv_X8_laySkin : zrv sp_X8_laySkin 8 1 := by
  intro kd as M K h
  unfold sp_X8_laySkin at h
  split at h
  · exact ⟨_, _, rfl, h.1⟩
  · exact h.elim
theorem dd_X8_laySkin_0 : decode cX8_laySkin 0 = .ok (.iconst 0, 1) := by decide +kernel
theorem dd_X8_laySkin_1 : decode cX8_laySkin 1 = .ok (.istore_n 2, 1) := by decide +kernel
theorem dd_X8_laySkin_2 : decode cX8_laySkin 2 = .ok (.iload_n 2, 1) := by decide +kernel
theorem dd_X8_laySkin_3 : decode cX8_laySkin 3 = .ok (.bipush 127, 2) := by decide +kernel
theorem dd_X8_laySkin_5 : decode cX8_laySkin 5 = .ok (.if_icmp .ge 26, 3) := by decide +kernel
theorem dd_X8_laySkin_8 : decode cX8_laySkin 8 = .ok (.aload_n 0, 1) := by decide +kernel
theorem dd_X8_laySkin_9 : decode cX8_laySkin 9 = .ok (.getfield 30, 3) := by decide +kernel
theorem dd_X8_laySkin_12 : decode cX8_laySkin 12 = .ok (.bipush 127, 2) := by decide +kernel
theorem dd_X8_laySkin_14 : decode cX8_laySkin 14 = .ok (.iload_n 1, 1) := by decide +kernel
theorem dd_X8_laySkin_15 : decode cX8_laySkin 15 = .ok (.imul, 1) := by decide +kernel
theorem dd_X8_laySkin_16 : decode cX8_laySkin 16 = .ok (.iload_n 2, 1) := by decide +kernel
theorem dd_X8_laySkin_17 : decode cX8_laySkin 17 = .ok (.iadd, 1) := by decide +kernel
theorem dd_X8_laySkin_18 : decode cX8_laySkin 18 = .ok (.aload_n 0, 1) := by decide +kernel
theorem dd_X8_laySkin_19 : decode cX8_laySkin 19 = .ok (.getfield 27, 3) := by decide +kernel
theorem dd_X8_laySkin_22 : decode cX8_laySkin 22 = .ok (.iload_n 2, 1) := by decide +kernel
theorem dd_X8_laySkin_23 : decode cX8_laySkin 23 = .ok (.iaload, 1) := by decide +kernel
theorem dd_X8_laySkin_24 : decode cX8_laySkin 24 = .ok (.iastore, 1) := by decide +kernel
theorem dd_X8_laySkin_25 : decode cX8_laySkin 25 = .ok (.iinc 2 1, 3) := by decide +kernel
theorem dd_X8_laySkin_28 : decode cX8_laySkin 28 = .ok (.goto (-26), 3) := by decide +kernel
theorem dd_X8_laySkin_31 : decode cX8_laySkin 31 = .ok (.return_, 1) := by decide +kernel
def tb_X8_laySkin (kd : Nat → Nat) (K : zK) : zTab := [(0, zt_const (zI 0) 1), (1, zt_istore 2 2), (2, zt_iload 2 3), (3, zt_const (zI 127) 5), (5, zt_icmp (fun x y => y ≤ x) (fun x y => ¬ y ≤ x) 31 8), (8, zt_aload 0 9), (9, zt_getR kd 8 0 6 12), (12, zt_const (zI 127) 14), (14, zt_iload 1 15), (15, zt_bin (fun x y => x * y) 16), (16, zt_iload 2 17), (17, zt_bin (fun x y => x + y) 18), (18, zt_aload 0 19), (19, zt_getR kd 8 0 5 22), (22, zt_iload 2 23), (23, zt_ald kd 0 24), (24, zt_ast kd 0 25), (25, zt_iinc 2 1 28), (28, zt_goto 2), (31, zt_vret K)]
set_option maxRecDepth 20000 in
theorem tk_X8_laySkin (d : Nat)  : zTrue RX8 cX8_laySkin 3 none (d + 1) (fun kd K => tb_X8_laySkin kd K) := by
  intro p l e R s m args below meth c D cy A ad bl Qm K C0 hr hlocks hQ
  obtain ⟨hx, hb, hml, hown, hts, hK, hD, hA0, hN, hE, ⟨hR1, hR2⟩, hc1, hc2⟩ := id C0
  unfold tb_X8_laySkin
  refine List.forall_mem_cons.mpr ⟨ok_iconst hx hb dd_X8_laySkin_0 (by decide), ?_⟩
  refine List.forall_mem_cons.mpr ⟨ok_istore_n hx hb rfl dd_X8_laySkin_1, ?_⟩
  refine List.forall_mem_cons.mpr ⟨ok_iload_n hx hb rfl dd_X8_laySkin_2, ?_⟩
  refine List.forall_mem_cons.mpr ⟨ok_bipush hx hb dd_X8_laySkin_3 (by decide), ?_⟩
  refine List.forall_mem_cons.mpr ⟨ok_icmp_ge hx hb dd_X8_laySkin_5 (by decide), ?_⟩
  refine List.forall_mem_cons.mpr ⟨ok_aload_n hx hb rfl dd_X8_laySkin_8, ?_⟩
  refine List.forall_mem_cons.mpr ⟨ok_getR (j := 9) hx hb hts zi_X8 hown hK zc_X8 (by decide) rfl (fun t fl h => by cases h; rfl) (hts _ wd_849) dd_X8_laySkin_9, ?_⟩
  refine List.forall_mem_cons.mpr ⟨ok_bipush hx hb dd_X8_laySkin_12 (by decide), ?_⟩
  refine List.forall_mem_cons.mpr ⟨ok_iload_n hx hb rfl dd_X8_laySkin_14, ?_⟩
  refine List.forall_mem_cons.mpr ⟨ok_imul hx hb dd_X8_laySkin_15, ?_⟩
  refine List.forall_mem_cons.mpr ⟨ok_iload_n hx hb rfl dd_X8_laySkin_16, ?_⟩
  refine List.forall_mem_cons.mpr ⟨ok_iadd hx hb dd_X8_laySkin_17, ?_⟩
  refine List.forall_mem_cons.mpr ⟨ok_aload_n hx hb rfl dd_X8_laySkin_18, ?_⟩
  refine List.forall_mem_cons.mpr ⟨ok_getR (j := 6) hx hb hts zi_X8 hown hK zc_X8 (by decide) rfl (fun t fl h => by cases h; rfl) (hts _ wd_846) dd_X8_laySkin_19, ?_⟩
  refine List.forall_mem_cons.mpr ⟨ok_iload_n hx hb rfl dd_X8_laySkin_22, ?_⟩
  refine List.forall_mem_cons.mpr ⟨ok_ald (ty := 0) rfl hx hb hK (Or.inl ⟨rfl, rfl, dd_X8_laySkin_23⟩), ?_⟩
  refine List.forall_mem_cons.mpr ⟨ok_ast (ty := 0) rfl hx hb hK hD (Or.inl ⟨rfl, rfl, dd_X8_laySkin_24⟩), ?_⟩
  refine List.forall_mem_cons.mpr ⟨ok_iinc hx hb dd_X8_laySkin_25 (by decide), ?_⟩
  refine List.forall_mem_cons.mpr ⟨ok_goto hx hb dd_X8_laySkin_28 (by decide), ?_⟩
  refine List.forall_mem_cons.mpr ⟨ok_vret hx hb hr hlocks hQ dd_X8_laySkin_31, ?_⟩
  exact fun _ h => absurd h List.not_mem_nil
set_option maxRecDepth 100000 in
theorem vc_X8_laySkin_0 {kd : Nat → Nat} {K : zK} {X : zX} (hX : ∀ (n pc : Nat) (ls : zLS) (st : List zV) (M : zM), zrun (tb_X8_laySkin kd K) [(2, [])] n X pc ls st M → X pc ls st M) {t : Int32} {M : zM}  (h : X 2 [some (zR 9 0), some (zI (t)), some (zI ((0 : Int32)))] [] M) : X 0 [some (zR 9 0), some (zI (t)), none] [] M := hX 4 0 _ [] M (show X 2 [some (zR 9 0), some (zI (t)), some (zI ((0 : Int32)))] [] M from h)
set_option maxRecDepth 100000 in
theorem vc_X8_laySkin_2 {kd : Nat → Nat} {K : zK} {X : zX} (hX : ∀ (n pc : Nat) (ls : zLS) (st : List zV) (M : zM), zrun (tb_X8_laySkin kd K) [(2, [])] n X pc ls st M → X pc ls st M) {t : Int32} {k : Int32} {M : zM} (hk0 : kd 9 = 8) (h : (((127 : Int32) ≤ k) → K none M) ∧ ((¬ (127 : Int32) ≤ k) → (zin (kd 9) 5 0 k) ∧ (zin (kd 9) 6 0 (((127 : Int32) * t) + k)) ∧ ∀ M1 : zM, (M1 = zmw M 9 6 (upd (M.1 9 6) (((127 : Int32) * t) + k).toNatClampNeg (M.1 9 5 (k).toNatClampNeg))) → X 2 [some (zR 9 0), some (zI (t)), some (zI (k + 1))] [] M1)) : X 2 [some (zR 9 0), some (zI (t)), some (zI (k))] [] M := hX 19 2 _ [] M (show (((127 : Int32) ≤ k) → K none M) ∧ ((¬ (127 : Int32) ≤ k) → (kd 9 = 8) ∧ (kd 9 = 8) ∧ (zin (kd 9) 5 0 k) ∧ (zin (kd 9) 6 0 (((127 : Int32) * t) + k)) ∧ ∀ M1 : zM, (M1 = zmw M 9 6 (upd (M.1 9 6) (((127 : Int32) * t) + k).toNatClampNeg (M.1 9 5 (k).toNatClampNeg))) → X 2 [some (zR 9 0), some (zI (t)), some (zI (k + 1))] [] M1) from ⟨fun q => have h := h.1 q; h, fun q => have h := h.2 q; ⟨hk0, ⟨hk0, ⟨h.1, have h := h.2; ⟨h.1, have h := h.2; fun M1 => have h := h M1; fun q => have h := h q; h⟩⟩⟩⟩⟩)
def sp_X8_backTo : zSpec := fun kd as M K => match as with
  | [.inr (.inr (.inl (9, 0))), .inl t] => (kd 9 = 8) ∧ (0 ≤ t.toInt ∧ t.toInt < 4) ∧ ∀ f : Nat → Int32, (∀ j9, j9 < 127 → f j9 = M.1 9 6 (127 * t.toInt.toNat + j9)) → ∀ M' : zM, (M' = zmw M 9 5 f) → K none M'
  | _ => False
theorem rv_X8_backTo : zrv sp_X8_backTo 8 1 := by
  intro kd as M K h
  unfold sp_X8_backTo at h
  split at h
  · exact ⟨_, _, rfl, h.1⟩
  · exact h.elim
theorem dd_X8_backTo_0 : decode cX8_backTo 0 = .ok (.iconst 0, 1) := by decide +kernel
theorem dd_X8_backTo_1 : decode cX8_backTo 1 = .ok (.istore_n 2, 1) := by decide +kernel
theorem dd_X8_backTo_2 : decode cX8_backTo 2 = .ok (.iload_n 2, 1) := by decide +kernel
theorem dd_X8_backTo_3 : decode cX8_backTo 3 = .ok (.bipush 127, 2) := by decide +kernel
theorem dd_X8_backTo_5 : decode cX8_backTo 5 = .ok (.if_icmp .ge 26, 3) := by decide +kernel
theorem dd_X8_backTo_8 : decode cX8_backTo 8 = .ok (.aload_n 0, 1) := by decide +kernel
theorem dd_X8_backTo_9 : decode cX8_backTo 9 = .ok (.getfield 27, 3) := by decide +kernel
theorem dd_X8_backTo_12 : decode cX8_backTo 12 = .ok (.iload_n 2, 1) := by decide +kernel
theorem dd_X8_backTo_13 : decode cX8_backTo 13 = .ok (.aload_n 0, 1) := by decide +kernel
theorem dd_X8_backTo_14 : decode cX8_backTo 14 = .ok (.getfield 30, 3) := by decide +kernel
theorem dd_X8_backTo_17 : decode cX8_backTo 17 = .ok (.bipush 127, 2) := by decide +kernel
theorem dd_X8_backTo_19 : decode cX8_backTo 19 = .ok (.iload_n 1, 1) := by decide +kernel
theorem dd_X8_backTo_20 : decode cX8_backTo 20 = .ok (.imul, 1) := by decide +kernel
theorem dd_X8_backTo_21 : decode cX8_backTo 21 = .ok (.iload_n 2, 1) := by decide +kernel
theorem dd_X8_backTo_22 : decode cX8_backTo 22 = .ok (.iadd, 1) := by decide +kernel
theorem dd_X8_backTo_23 : decode cX8_backTo 23 = .ok (.iaload, 1) := by decide +kernel
theorem dd_X8_backTo_24 : decode cX8_backTo 24 = .ok (.iastore, 1) := by decide +kernel
theorem dd_X8_backTo_25 : decode cX8_backTo 25 = .ok (.iinc 2 1, 3) := by decide +kernel
theorem dd_X8_backTo_28 : decode cX8_backTo 28 = .ok (.goto (-26), 3) := by decide +kernel
theorem dd_X8_backTo_31 : decode cX8_backTo 31 = .ok (.return_, 1) := by decide +kernel
def tb_X8_backTo (kd : Nat → Nat) (K : zK) : zTab := [(0, zt_const (zI 0) 1), (1, zt_istore 2 2), (2, zt_iload 2 3), (3, zt_const (zI 127) 5), (5, zt_icmp (fun x y => y ≤ x) (fun x y => ¬ y ≤ x) 31 8), (8, zt_aload 0 9), (9, zt_getR kd 8 0 5 12), (12, zt_iload 2 13), (13, zt_aload 0 14), (14, zt_getR kd 8 0 6 17), (17, zt_const (zI 127) 19), (19, zt_iload 1 20), (20, zt_bin (fun x y => x * y) 21), (21, zt_iload 2 22), (22, zt_bin (fun x y => x + y) 23), (23, zt_ald kd 0 24), (24, zt_ast kd 0 25), (25, zt_iinc 2 1 28), (28, zt_goto 2), (31, zt_vret K)]
set_option maxRecDepth 20000 in
theorem tk_X8_backTo (d : Nat)  : zTrue RX8 cX8_backTo 3 none (d + 1) (fun kd K => tb_X8_backTo kd K) := by
  intro p l e R s m args below meth c D cy A ad bl Qm K C0 hr hlocks hQ
  obtain ⟨hx, hb, hml, hown, hts, hK, hD, hA0, hN, hE, ⟨hR1, hR2⟩, hc1, hc2⟩ := id C0
  unfold tb_X8_backTo
  refine List.forall_mem_cons.mpr ⟨ok_iconst hx hb dd_X8_backTo_0 (by decide), ?_⟩
  refine List.forall_mem_cons.mpr ⟨ok_istore_n hx hb rfl dd_X8_backTo_1, ?_⟩
  refine List.forall_mem_cons.mpr ⟨ok_iload_n hx hb rfl dd_X8_backTo_2, ?_⟩
  refine List.forall_mem_cons.mpr ⟨ok_bipush hx hb dd_X8_backTo_3 (by decide), ?_⟩
  refine List.forall_mem_cons.mpr ⟨ok_icmp_ge hx hb dd_X8_backTo_5 (by decide), ?_⟩
  refine List.forall_mem_cons.mpr ⟨ok_aload_n hx hb rfl dd_X8_backTo_8, ?_⟩
  refine List.forall_mem_cons.mpr ⟨ok_getR (j := 6) hx hb hts zi_X8 hown hK zc_X8 (by decide) rfl (fun t fl h => by cases h; rfl) (hts _ wd_846) dd_X8_backTo_9, ?_⟩
  refine List.forall_mem_cons.mpr ⟨ok_iload_n hx hb rfl dd_X8_backTo_12, ?_⟩
  refine List.forall_mem_cons.mpr ⟨ok_aload_n hx hb rfl dd_X8_backTo_13, ?_⟩
  refine List.forall_mem_cons.mpr ⟨ok_getR (j := 9) hx hb hts zi_X8 hown hK zc_X8 (by decide) rfl (fun t fl h => by cases h; rfl) (hts _ wd_849) dd_X8_backTo_14, ?_⟩
  refine List.forall_mem_cons.mpr ⟨ok_bipush hx hb dd_X8_backTo_17 (by decide), ?_⟩
  refine List.forall_mem_cons.mpr ⟨ok_iload_n hx hb rfl dd_X8_backTo_19, ?_⟩
  refine List.forall_mem_cons.mpr ⟨ok_imul hx hb dd_X8_backTo_20, ?_⟩
  refine List.forall_mem_cons.mpr ⟨ok_iload_n hx hb rfl dd_X8_backTo_21, ?_⟩
  refine List.forall_mem_cons.mpr ⟨ok_iadd hx hb dd_X8_backTo_22, ?_⟩
  refine List.forall_mem_cons.mpr ⟨ok_ald (ty := 0) rfl hx hb hK (Or.inl ⟨rfl, rfl, dd_X8_backTo_23⟩), ?_⟩
  refine List.forall_mem_cons.mpr ⟨ok_ast (ty := 0) rfl hx hb hK hD (Or.inl ⟨rfl, rfl, dd_X8_backTo_24⟩), ?_⟩
  refine List.forall_mem_cons.mpr ⟨ok_iinc hx hb dd_X8_backTo_25 (by decide), ?_⟩
  refine List.forall_mem_cons.mpr ⟨ok_goto hx hb dd_X8_backTo_28 (by decide), ?_⟩
  refine List.forall_mem_cons.mpr ⟨ok_vret hx hb hr hlocks hQ dd_X8_backTo_31, ?_⟩
  exact fun _ h => absurd h List.not_mem_nil
set_option maxRecDepth 100000 in
theorem vc_X8_backTo_0 {kd : Nat → Nat} {K : zK} {X : zX} (hX : ∀ (n pc : Nat) (ls : zLS) (st : List zV) (M : zM), zrun (tb_X8_backTo kd K) [(2, [])] n X pc ls st M → X pc ls st M) {t : Int32} {M : zM}  (h : X 2 [some (zR 9 0), some (zI (t)), some (zI ((0 : Int32)))] [] M) : X 0 [some (zR 9 0), some (zI (t)), none] [] M := hX 4 0 _ [] M (show X 2 [some (zR 9 0), some (zI (t)), some (zI ((0 : Int32)))] [] M from h)
set_option maxRecDepth 100000 in
theorem vc_X8_backTo_2 {kd : Nat → Nat} {K : zK} {X : zX} (hX : ∀ (n pc : Nat) (ls : zLS) (st : List zV) (M : zM), zrun (tb_X8_backTo kd K) [(2, [])] n X pc ls st M → X pc ls st M) {t : Int32} {k : Int32} {M : zM} (hk0 : kd 9 = 8) (h : (((127 : Int32) ≤ k) → K none M) ∧ ((¬ (127 : Int32) ≤ k) → (zin (kd 9) 6 0 (((127 : Int32) * t) + k)) ∧ (zin (kd 9) 5 0 k) ∧ ∀ M1 : zM, (M1 = zmw M 9 5 (upd (M.1 9 5) (k).toNatClampNeg (M.1 9 6 (((127 : Int32) * t) + k).toNatClampNeg))) → X 2 [some (zR 9 0), some (zI (t)), some (zI (k + 1))] [] M1)) : X 2 [some (zR 9 0), some (zI (t)), some (zI (k))] [] M := hX 19 2 _ [] M (show (((127 : Int32) ≤ k) → K none M) ∧ ((¬ (127 : Int32) ≤ k) → (kd 9 = 8) ∧ (kd 9 = 8) ∧ (zin (kd 9) 6 0 (((127 : Int32) * t) + k)) ∧ (zin (kd 9) 5 0 k) ∧ ∀ M1 : zM, (M1 = zmw M 9 5 (upd (M.1 9 5) (k).toNatClampNeg (M.1 9 6 (((127 : Int32) * t) + k).toNatClampNeg))) → X 2 [some (zR 9 0), some (zI (t)), some (zI (k + 1))] [] M1) from ⟨fun q => have h := h.1 q; h, fun q => have h := h.2 q; ⟨hk0, ⟨hk0, ⟨h.1, have h := h.2; ⟨h.1, have h := h.2; fun M1 => have h := h M1; fun q => have h := h q; h⟩⟩⟩⟩⟩)
def sp_X8_power : zSpec := fun kd as M K => match as with
  | [.inl c, .inl n] => (0 ≤ c.toInt ∧ c.toInt ≤ 4) ∧ (0 ≤ n.toInt ∧ n.toInt ≤ 24) ∧ ∀ v : Int64, (v.toInt = pwr c.toInt n.toInt) → K (some (.inr (.inl v))) M
  | _ => False
theorem dd_X8_power_0 : decode cX8_power 0 = .ok (.lconst 1, 1) := by decide +kernel
theorem dd_X8_power_1 : decode cX8_power 1 = .ok (.lstore_n 2, 1) := by decide +kernel
theorem dd_X8_power_2 : decode cX8_power 2 = .ok (.iconst 0, 1) := by decide +kernel
theorem dd_X8_power_3 : decode cX8_power 3 = .ok (.istore 4, 2) := by decide +kernel
theorem dd_X8_power_5 : decode cX8_power 5 = .ok (.iload 4, 2) := by decide +kernel
theorem dd_X8_power_7 : decode cX8_power 7 = .ok (.iload_n 1, 1) := by decide +kernel
theorem dd_X8_power_8 : decode cX8_power 8 = .ok (.if_icmp .ge 14, 3) := by decide +kernel
theorem dd_X8_power_11 : decode cX8_power 11 = .ok (.lload_n 2, 1) := by decide +kernel
theorem dd_X8_power_12 : decode cX8_power 12 = .ok (.iload_n 0, 1) := by decide +kernel
theorem dd_X8_power_13 : decode cX8_power 13 = .ok (.i2l, 1) := by decide +kernel
theorem dd_X8_power_14 : decode cX8_power 14 = .ok (.lmul, 1) := by decide +kernel
theorem dd_X8_power_15 : decode cX8_power 15 = .ok (.lstore_n 2, 1) := by decide +kernel
theorem dd_X8_power_16 : decode cX8_power 16 = .ok (.iinc 4 1, 3) := by decide +kernel
theorem dd_X8_power_19 : decode cX8_power 19 = .ok (.goto (-14), 3) := by decide +kernel
theorem dd_X8_power_22 : decode cX8_power 22 = .ok (.lload_n 2, 1) := by decide +kernel
theorem dd_X8_power_23 : decode cX8_power 23 = .ok (.lreturn, 1) := by decide +kernel
def tb_X8_power (kd : Nat → Nat) (K : zK) : zTab := [(0, zt_const (zL 1) 1), (1, zt_lstore 2 2), (2, zt_const (zI 0) 3), (3, zt_istore 4 5), (5, zt_iload 4 7), (7, zt_iload 1 8), (8, zt_icmp (fun x y => y ≤ x) (fun x y => ¬ y ≤ x) 22 11), (11, zt_lload 2 12), (12, zt_iload 0 13), (13, zt_un (fun x => zL x.toInt64) 14), (14, zt_binL (fun x y => x * y) 15), (15, zt_lstore 2 16), (16, zt_iinc 4 1 19), (19, zt_goto 5), (22, zt_lload 2 23), (23, zt_lret K)]
set_option maxRecDepth 20000 in
theorem tk_X8_power (d : Nat)  : zTrue RX8 cX8_power 5 (some .long) (d + 1) (fun kd K => tb_X8_power kd K) := by
  intro p l e R s m args below meth c D cy A ad bl Qm K C0 hr hlocks hQ
  obtain ⟨hx, hb, hml, hown, hts, hK, hD, hA0, hN, hE, ⟨hR1, hR2⟩, hc1, hc2⟩ := id C0
  unfold tb_X8_power
  refine List.forall_mem_cons.mpr ⟨ok_lconst hx hb dd_X8_power_0 (by decide), ?_⟩
  refine List.forall_mem_cons.mpr ⟨ok_lstore_n hx hb rfl dd_X8_power_1, ?_⟩
  refine List.forall_mem_cons.mpr ⟨ok_iconst hx hb dd_X8_power_2 (by decide), ?_⟩
  refine List.forall_mem_cons.mpr ⟨ok_istore hx hb dd_X8_power_3, ?_⟩
  refine List.forall_mem_cons.mpr ⟨ok_iload hx hb dd_X8_power_5, ?_⟩
  refine List.forall_mem_cons.mpr ⟨ok_iload_n hx hb rfl dd_X8_power_7, ?_⟩
  refine List.forall_mem_cons.mpr ⟨ok_icmp_ge hx hb dd_X8_power_8 (by decide), ?_⟩
  refine List.forall_mem_cons.mpr ⟨ok_lload_n hx hb rfl dd_X8_power_11, ?_⟩
  refine List.forall_mem_cons.mpr ⟨ok_iload_n hx hb rfl dd_X8_power_12, ?_⟩
  refine List.forall_mem_cons.mpr ⟨ok_i2l hx hb dd_X8_power_13, ?_⟩
  refine List.forall_mem_cons.mpr ⟨ok_lmul hx hb dd_X8_power_14, ?_⟩
  refine List.forall_mem_cons.mpr ⟨ok_lstore_n hx hb rfl dd_X8_power_15, ?_⟩
  refine List.forall_mem_cons.mpr ⟨ok_iinc hx hb dd_X8_power_16 (by decide), ?_⟩
  refine List.forall_mem_cons.mpr ⟨ok_goto hx hb dd_X8_power_19 (by decide), ?_⟩
  refine List.forall_mem_cons.mpr ⟨ok_lload_n hx hb rfl dd_X8_power_22, ?_⟩
  refine List.forall_mem_cons.mpr ⟨ok_lret hx hb hr hlocks hQ dd_X8_power_23, ?_⟩
  exact fun _ h => absurd h List.not_mem_nil
set_option maxRecDepth 100000 in
theorem vc_X8_power_0 {kd : Nat → Nat} {K : zK} {X : zX} (hX : ∀ (n pc : Nat) (ls : zLS) (st : List zV) (M : zM), zrun (tb_X8_power kd K) [(5, [])] n X pc ls st M → X pc ls st M) {c : Int32} {n : Int32} {M : zM}  (h : X 5 [some (zI (c)), some (zI (n)), some (zL ((1 : Int64))), none, some (zI ((0 : Int32)))] [] M) : X 0 [some (zI (c)), some (zI (n)), none, none, none] [] M := hX 6 0 _ [] M (show X 5 [some (zI (c)), some (zI (n)), some (zL ((1 : Int64))), none, some (zI ((0 : Int32)))] [] M from h)
set_option maxRecDepth 100000 in
theorem vc_X8_power_5 {kd : Nat → Nat} {K : zK} {X : zX} (hX : ∀ (n pc : Nat) (ls : zLS) (st : List zV) (M : zM), zrun (tb_X8_power kd K) [(5, [])] n X pc ls st M → X pc ls st M) {c : Int32} {n : Int32} {p : Int64} {k : Int32} {M : zM}  (h : ((n ≤ k) → K (some (zL (p))) M) ∧ ((¬ n ≤ k) → X 5 [some (zI (c)), some (zI (n)), some (zL (p * c.toInt64)), none, some (zI (k + 1))] [] M)) : X 5 [some (zI (c)), some (zI (n)), some (zL (p)), none, some (zI (k))] [] M := hX 12 5 _ [] M (show ((n ≤ k) → K (some (zL (p))) M) ∧ ((¬ n ≤ k) → X 5 [some (zI (c)), some (zI (n)), some (zL (p * c.toInt64)), none, some (zI (k + 1))] [] M) from ⟨fun q => have h := h.1 q; h, fun q => have h := h.2 q; h⟩)
def sp_X8_isLayer : zSpec := fun kd as M K => match as with
  | [.inr (.inr (.inl (9, 0))), .inl c, .inl i] => (kd 9 = 8) ∧ ∃ a : Sk, (RpF (M.1 9 1) a) ∧ ∀ v : Int32, (v = zp ((sk_at a c.toInt i.toInt).isSome = true)) → K (some (.inl v)) M
  | _ => False
theorem rv_X8_isLayer : zrv sp_X8_isLayer 8 2 := by
  intro kd as M K h
  unfold sp_X8_isLayer at h
  split at h
  · exact ⟨_, _, rfl, h.1⟩
  · exact h.elim
theorem dd_X8_isLayer_0 : decode cX8_isLayer 0 = .ok (.iload_n 1, 1) := by decide +kernel
theorem dd_X8_isLayer_1 : decode cX8_isLayer 1 = .ok (.invokestatic 74, 3) := by decide +kernel
theorem dd_X8_isLayer_4 : decode cX8_isLayer 4 = .ok (.ifCond .eq 27, 3) := by decide +kernel
theorem dd_X8_isLayer_7 : decode cX8_isLayer 7 = .ok (.iload_n 2, 1) := by decide +kernel
theorem dd_X8_isLayer_8 : decode cX8_isLayer 8 = .ok (.i2l, 1) := by decide +kernel
theorem dd_X8_isLayer_9 : decode cX8_isLayer 9 = .ok (.lconst 0, 1) := by decide +kernel
theorem dd_X8_isLayer_10 : decode cX8_isLayer 10 = .ok (.aload_n 0, 1) := by decide +kernel
theorem dd_X8_isLayer_11 : decode cX8_isLayer 11 = .ok (.getfield 7, 3) := by decide +kernel
theorem dd_X8_isLayer_14 : decode cX8_isLayer 14 = .ok (.iconst 0, 1) := by decide +kernel
theorem dd_X8_isLayer_15 : decode cX8_isLayer 15 = .ok (.iload_n 1, 1) := by decide +kernel
theorem dd_X8_isLayer_16 : decode cX8_isLayer 16 = .ok (.iadd, 1) := by decide +kernel
theorem dd_X8_isLayer_17 : decode cX8_isLayer 17 = .ok (.iaload, 1) := by decide +kernel
theorem dd_X8_isLayer_18 : decode cX8_isLayer 18 = .ok (.iconst 1, 1) := by decide +kernel
theorem dd_X8_isLayer_19 : decode cX8_isLayer 19 = .ok (.isub, 1) := by decide +kernel
theorem dd_X8_isLayer_20 : decode cX8_isLayer 20 = .ok (.i2l, 1) := by decide +kernel
theorem dd_X8_isLayer_21 : decode cX8_isLayer 21 = .ok (.invokestatic 54, 3) := by decide +kernel
theorem dd_X8_isLayer_24 : decode cX8_isLayer 24 = .ok (.ifCond .eq 7, 3) := by decide +kernel
theorem dd_X8_isLayer_27 : decode cX8_isLayer 27 = .ok (.iconst 1, 1) := by decide +kernel
theorem dd_X8_isLayer_28 : decode cX8_isLayer 28 = .ok (.goto 4, 3) := by decide +kernel
theorem dd_X8_isLayer_31 : decode cX8_isLayer 31 = .ok (.iconst 0, 1) := by decide +kernel
theorem dd_X8_isLayer_32 : decode cX8_isLayer 32 = .ok (.ireturn, 1) := by decide +kernel
def tb_X8_isLayer (kd : Nat → Nat) (K : zK) : zTab := [(0, zt_iload 1 1), (1, zt_call kd sp_X8_isCell 1 4), (4, zt_if (fun x => x = 0) (fun x => ¬ x = 0) 31 7), (7, zt_iload 2 8), (8, zt_un (fun x => zL x.toInt64) 9), (9, zt_const (zL 0) 10), (10, zt_aload 0 11), (11, zt_getR kd 8 0 1 14), (14, zt_const (zI 0) 15), (15, zt_iload 1 16), (16, zt_bin (fun x y => x + y) 17), (17, zt_ald kd 0 18), (18, zt_const (zI 1) 19), (19, zt_bin (fun x y => x - y) 20), (20, zt_un (fun x => zL x.toInt64) 21), (21, zt_call kd sp_X8_in 3 24), (24, zt_if (fun x => x = 0) (fun x => ¬ x = 0) 31 27), (27, zt_const (zI 1) 28), (28, zt_goto 32), (31, zt_const (zI 0) 32), (32, zt_zret K)]
set_option maxRecDepth 20000 in
theorem tk_X8_isLayer (d : Nat) (h_X8_isCell : zMS 2 yX8_isCell cX8_isCell 1 (some .boolean) sp_X8_isCell) (h_X8_in : zMS 1 yX8_in cX8_in 6 (some .boolean) sp_X8_in) : zTrue RX8 cX8_isLayer 3 (some .boolean) (d + 3) (fun kd K => tb_X8_isLayer kd K) := by
  intro p l e R s m args below meth c D cy A ad bl Qm K C0 hr hlocks hQ
  obtain ⟨hx, hb, hml, hown, hts, hK, hD, hA0, hN, hE, ⟨hR1, hR2⟩, hc1, hc2⟩ := id C0
  unfold tb_X8_isLayer
  refine List.forall_mem_cons.mpr ⟨ok_iload_n hx hb rfl dd_X8_isLayer_0, ?_⟩
  refine List.forall_mem_cons.mpr ⟨ok_callS (n := 1) C0 (h_X8_isCell (d + 2) (by omega)) (by decide) wd_924 wd_922 wd_923 wd_107 ⟨by decide +kernel, by decide +kernel, by decide +kernel⟩ dd_X8_isLayer_1, ?_⟩
  refine List.forall_mem_cons.mpr ⟨ok_if_eq hx hb dd_X8_isLayer_4 (by decide), ?_⟩
  refine List.forall_mem_cons.mpr ⟨ok_iload_n hx hb rfl dd_X8_isLayer_7, ?_⟩
  refine List.forall_mem_cons.mpr ⟨ok_i2l hx hb dd_X8_isLayer_8, ?_⟩
  refine List.forall_mem_cons.mpr ⟨ok_lconst hx hb dd_X8_isLayer_9 (by decide), ?_⟩
  refine List.forall_mem_cons.mpr ⟨ok_aload_n hx hb rfl dd_X8_isLayer_10, ?_⟩
  refine List.forall_mem_cons.mpr ⟨ok_getR (j := 0) hx hb hts zi_X8 hown hK zc_X8 (by decide) rfl (fun t fl h => by cases h; rfl) (hts _ wd_840) dd_X8_isLayer_11, ?_⟩
  refine List.forall_mem_cons.mpr ⟨ok_iconst hx hb dd_X8_isLayer_14 (by decide), ?_⟩
  refine List.forall_mem_cons.mpr ⟨ok_iload_n hx hb rfl dd_X8_isLayer_15, ?_⟩
  refine List.forall_mem_cons.mpr ⟨ok_iadd hx hb dd_X8_isLayer_16, ?_⟩
  refine List.forall_mem_cons.mpr ⟨ok_ald (ty := 0) rfl hx hb hK (Or.inl ⟨rfl, rfl, dd_X8_isLayer_17⟩), ?_⟩
  refine List.forall_mem_cons.mpr ⟨ok_iconst hx hb dd_X8_isLayer_18 (by decide), ?_⟩
  refine List.forall_mem_cons.mpr ⟨ok_isub hx hb dd_X8_isLayer_19, ?_⟩
  refine List.forall_mem_cons.mpr ⟨ok_i2l hx hb dd_X8_isLayer_20, ?_⟩
  refine List.forall_mem_cons.mpr ⟨ok_callS (n := 3) C0 (h_X8_in (d + 2) (by omega)) (by decide) wd_928 wd_926 wd_927 wd_107 ⟨by decide +kernel, by decide +kernel, by decide +kernel⟩ dd_X8_isLayer_21, ?_⟩
  refine List.forall_mem_cons.mpr ⟨ok_if_eq hx hb dd_X8_isLayer_24 (by decide), ?_⟩
  refine List.forall_mem_cons.mpr ⟨ok_iconst hx hb dd_X8_isLayer_27 (by decide), ?_⟩
  refine List.forall_mem_cons.mpr ⟨ok_goto hx hb dd_X8_isLayer_28 (by decide), ?_⟩
  refine List.forall_mem_cons.mpr ⟨ok_iconst hx hb dd_X8_isLayer_31 (by decide), ?_⟩
  refine List.forall_mem_cons.mpr ⟨ok_zret hx hb hr hlocks hQ dd_X8_isLayer_32, ?_⟩
  exact fun _ h => absurd h List.not_mem_nil
set_option maxRecDepth 100000 in
theorem vc_X8_isLayer_0 {kd : Nat → Nat} {K : zK} {X : zX} (hX : ∀ (n pc : Nat) (ls : zLS) (st : List zV) (M : zM), zrun (tb_X8_isLayer kd K) [] n X pc ls st M → X pc ls st M) {c : Int32} {i : Int32} {M : zM} (hk0 : kd 9 = 8) (h : ∀ v1 : Int32, (v1 = zp (isC c.toInt)) → ((v1 = 0) → K (some (zI ((0 : Int32)))) M) ∧ ((¬ v1 = 0) → (zin (kd 9) 1 0 ((0 : Int32) + c)) ∧ ∀ v2 : Int32, (v2 = zp ((0 : Int64).toInt ≤ i.toInt64.toInt ∧ i.toInt64.toInt ≤ (((M.1 9 1 ((0 : Int32) + c).toNatClampNeg) - (1 : Int32)).toInt64).toInt)) → ((v2 = 0) → K (some (zI ((0 : Int32)))) M) ∧ ((¬ v2 = 0) → K (some (zI ((1 : Int32)))) M))) : X 0 [some (zR 9 0), some (zI (c)), some (zI (i))] [] M := hX 21 0 _ [] M (show ∀ v1 : Int32, (v1 = zp (isC c.toInt)) → ((v1 = 0) → ((0 : Int32) = 0 ∨ (0 : Int32) = 1) ∧ K (some (zI ((0 : Int32)))) M) ∧ ((¬ v1 = 0) → (kd 9 = 8) ∧ (zin (kd 9) 1 0 ((0 : Int32) + c)) ∧ ∀ v2 : Int32, (v2 = zp ((0 : Int64).toInt ≤ i.toInt64.toInt ∧ i.toInt64.toInt ≤ (((M.1 9 1 ((0 : Int32) + c).toNatClampNeg) - (1 : Int32)).toInt64).toInt)) → ((v2 = 0) → ((0 : Int32) = 0 ∨ (0 : Int32) = 1) ∧ K (some (zI ((0 : Int32)))) M) ∧ ((¬ v2 = 0) → ((1 : Int32) = 0 ∨ (1 : Int32) = 1) ∧ K (some (zI ((1 : Int32)))) M)) from fun v1 => have h := h v1; fun q => have h := h q; ⟨fun q => have h := h.1 q; ⟨(Or.inl rfl), h⟩, fun q => have h := h.2 q; ⟨hk0, ⟨h.1, have h := h.2; fun v2 => have h := h v2; fun q => have h := h q; ⟨fun q => have h := h.1 q; ⟨(Or.inl rfl), h⟩, fun q => have h := h.2 q; ⟨(Or.inr rfl), h⟩⟩⟩⟩⟩)
def sp_X8_mayStroke : zSpec := fun kd as M K => match as with
  | [.inr (.inr (.inl (9, 0))), .inl w] => (kd 9 = 8) ∧ ∃ a : Sk, (RpF (M.1 9 5) a) ∧ (0 ≤ w.toInt ∧ w.toInt ≤ 20) ∧ ∀ v : Int32, (v = zp (tr_may a w.toInt = true)) → K (some (.inl v)) M
  | _ => False
theorem rv_X8_mayStroke : zrv sp_X8_mayStroke 8 1 := by
  intro kd as M K h
  unfold sp_X8_mayStroke at h
  split at h
  · exact ⟨_, _, rfl, h.1⟩
  · exact h.elim
theorem dd_X8_mayStroke_0 : decode cX8_mayStroke 0 = .ok (.iload_n 1, 1) := by decide +kernel
theorem dd_X8_mayStroke_1 : decode cX8_mayStroke 1 = .ok (.bipush 20, 2) := by decide +kernel
theorem dd_X8_mayStroke_3 : decode cX8_mayStroke 3 = .ok (.if_icmp .eq 45, 3) := by decide +kernel
theorem dd_X8_mayStroke_6 : decode cX8_mayStroke 6 = .ok (.iload_n 1, 1) := by decide +kernel
theorem dd_X8_mayStroke_7 : decode cX8_mayStroke 7 = .ok (.invokestatic 74, 3) := by decide +kernel
theorem dd_X8_mayStroke_10 : decode cX8_mayStroke 10 = .ok (.ifCond .eq 14, 3) := by decide +kernel
theorem dd_X8_mayStroke_13 : decode cX8_mayStroke 13 = .ok (.aload_n 0, 1) := by decide +kernel
theorem dd_X8_mayStroke_14 : decode cX8_mayStroke 14 = .ok (.getfield 27, 3) := by decide +kernel
theorem dd_X8_mayStroke_17 : decode cX8_mayStroke 17 = .ok (.iload_n 1, 1) := by decide +kernel
theorem dd_X8_mayStroke_18 : decode cX8_mayStroke 18 = .ok (.invokestatic 66, 3) := by decide +kernel
theorem dd_X8_mayStroke_21 : decode cX8_mayStroke 21 = .ok (.ifCond .ne 27, 3) := by decide +kernel
theorem dd_X8_mayStroke_24 : decode cX8_mayStroke 24 = .ok (.iload_n 1, 1) := by decide +kernel
theorem dd_X8_mayStroke_25 : decode cX8_mayStroke 25 = .ok (.bipush 10, 2) := by decide +kernel
theorem dd_X8_mayStroke_27 : decode cX8_mayStroke 27 = .ok (.isub, 1) := by decide +kernel
theorem dd_X8_mayStroke_28 : decode cX8_mayStroke 28 = .ok (.invokestatic 74, 3) := by decide +kernel
theorem dd_X8_mayStroke_31 : decode cX8_mayStroke 31 = .ok (.ifCond .eq 21, 3) := by decide +kernel
theorem dd_X8_mayStroke_34 : decode cX8_mayStroke 34 = .ok (.aload_n 0, 1) := by decide +kernel
theorem dd_X8_mayStroke_35 : decode cX8_mayStroke 35 = .ok (.getfield 27, 3) := by decide +kernel
theorem dd_X8_mayStroke_38 : decode cX8_mayStroke 38 = .ok (.iload_n 1, 1) := by decide +kernel
theorem dd_X8_mayStroke_39 : decode cX8_mayStroke 39 = .ok (.bipush 10, 2) := by decide +kernel
theorem dd_X8_mayStroke_41 : decode cX8_mayStroke 41 = .ok (.isub, 1) := by decide +kernel
theorem dd_X8_mayStroke_42 : decode cX8_mayStroke 42 = .ok (.invokestatic 154, 3) := by decide +kernel
theorem dd_X8_mayStroke_45 : decode cX8_mayStroke 45 = .ok (.ifCond .eq 7, 3) := by decide +kernel
theorem dd_X8_mayStroke_48 : decode cX8_mayStroke 48 = .ok (.iconst 1, 1) := by decide +kernel
theorem dd_X8_mayStroke_49 : decode cX8_mayStroke 49 = .ok (.goto 4, 3) := by decide +kernel
theorem dd_X8_mayStroke_52 : decode cX8_mayStroke 52 = .ok (.iconst 0, 1) := by decide +kernel
theorem dd_X8_mayStroke_53 : decode cX8_mayStroke 53 = .ok (.ireturn, 1) := by decide +kernel
def tb_X8_mayStroke (kd : Nat → Nat) (K : zK) : zTab := [(0, zt_iload 1 1), (1, zt_const (zI 20) 3), (3, zt_icmp (fun x y => x = y) (fun x y => ¬ x = y) 48 6), (6, zt_iload 1 7), (7, zt_call kd sp_X8_isCell 1 10), (10, zt_if (fun x => x = 0) (fun x => ¬ x = 0) 24 13), (13, zt_aload 0 14), (14, zt_getR kd 8 0 5 17), (17, zt_iload 1 18), (18, zt_call kd sp_X8_mayRub 2 21), (21, zt_if (fun x => ¬ x = 0) (fun x => x = 0) 48 24), (24, zt_iload 1 25), (25, zt_const (zI 10) 27), (27, zt_bin (fun x y => x - y) 28), (28, zt_call kd sp_X8_isCell 1 31), (31, zt_if (fun x => x = 0) (fun x => ¬ x = 0) 52 34), (34, zt_aload 0 35), (35, zt_getR kd 8 0 5 38), (38, zt_iload 1 39), (39, zt_const (zI 10) 41), (41, zt_bin (fun x y => x - y) 42), (42, zt_call kd sp_X8_mayWrite 2 45), (45, zt_if (fun x => x = 0) (fun x => ¬ x = 0) 52 48), (48, zt_const (zI 1) 49), (49, zt_goto 53), (52, zt_const (zI 0) 53), (53, zt_zret K)]
set_option maxRecDepth 20000 in
theorem tk_X8_mayStroke (d : Nat) (h_X8_isCell : zMS 2 yX8_isCell cX8_isCell 1 (some .boolean) sp_X8_isCell) (h_X8_mayRub : zMS 2 yX8_mayRub cX8_mayRub 2 (some .boolean) sp_X8_mayRub) (h_X8_mayWrite : zMS 3 yX8_mayWrite cX8_mayWrite 2 (some .boolean) sp_X8_mayWrite) : zTrue RX8 cX8_mayStroke 2 (some .boolean) (d + 4) (fun kd K => tb_X8_mayStroke kd K) := by
  intro p l e R s m args below meth c D cy A ad bl Qm K C0 hr hlocks hQ
  obtain ⟨hx, hb, hml, hown, hts, hK, hD, hA0, hN, hE, ⟨hR1, hR2⟩, hc1, hc2⟩ := id C0
  unfold tb_X8_mayStroke
  refine List.forall_mem_cons.mpr ⟨ok_iload_n hx hb rfl dd_X8_mayStroke_0, ?_⟩
  refine List.forall_mem_cons.mpr ⟨ok_bipush hx hb dd_X8_mayStroke_1 (by decide), ?_⟩
  refine List.forall_mem_cons.mpr ⟨ok_icmp_eq hx hb dd_X8_mayStroke_3 (by decide), ?_⟩
  refine List.forall_mem_cons.mpr ⟨ok_iload_n hx hb rfl dd_X8_mayStroke_6, ?_⟩
  refine List.forall_mem_cons.mpr ⟨ok_callS (n := 1) C0 (h_X8_isCell (d + 3) (by omega)) (by decide) wd_924 wd_922 wd_923 wd_107 ⟨by decide +kernel, by decide +kernel, by decide +kernel⟩ dd_X8_mayStroke_7, ?_⟩
  refine List.forall_mem_cons.mpr ⟨ok_if_eq hx hb dd_X8_mayStroke_10 (by decide), ?_⟩
  refine List.forall_mem_cons.mpr ⟨ok_aload_n hx hb rfl dd_X8_mayStroke_13, ?_⟩
  refine List.forall_mem_cons.mpr ⟨ok_getR (j := 6) hx hb hts zi_X8 hown hK zc_X8 (by decide) rfl (fun t fl h => by cases h; rfl) (hts _ wd_846) dd_X8_mayStroke_14, ?_⟩
  refine List.forall_mem_cons.mpr ⟨ok_iload_n hx hb rfl dd_X8_mayStroke_17, ?_⟩
  refine List.forall_mem_cons.mpr ⟨ok_callS (n := 2) C0 (h_X8_mayRub (d + 3) (by omega)) (by decide) wd_939 wd_937 wd_938 wd_107 ⟨by decide +kernel, by decide +kernel, by decide +kernel⟩ dd_X8_mayStroke_18, ?_⟩
  refine List.forall_mem_cons.mpr ⟨ok_if_ne hx hb dd_X8_mayStroke_21 (by decide), ?_⟩
  refine List.forall_mem_cons.mpr ⟨ok_iload_n hx hb rfl dd_X8_mayStroke_24, ?_⟩
  refine List.forall_mem_cons.mpr ⟨ok_bipush hx hb dd_X8_mayStroke_25 (by decide), ?_⟩
  refine List.forall_mem_cons.mpr ⟨ok_isub hx hb dd_X8_mayStroke_27, ?_⟩
  refine List.forall_mem_cons.mpr ⟨ok_callS (n := 1) C0 (h_X8_isCell (d + 3) (by omega)) (by decide) wd_924 wd_922 wd_923 wd_107 ⟨by decide +kernel, by decide +kernel, by decide +kernel⟩ dd_X8_mayStroke_28, ?_⟩
  refine List.forall_mem_cons.mpr ⟨ok_if_eq hx hb dd_X8_mayStroke_31 (by decide), ?_⟩
  refine List.forall_mem_cons.mpr ⟨ok_aload_n hx hb rfl dd_X8_mayStroke_34, ?_⟩
  refine List.forall_mem_cons.mpr ⟨ok_getR (j := 6) hx hb hts zi_X8 hown hK zc_X8 (by decide) rfl (fun t fl h => by cases h; rfl) (hts _ wd_846) dd_X8_mayStroke_35, ?_⟩
  refine List.forall_mem_cons.mpr ⟨ok_iload_n hx hb rfl dd_X8_mayStroke_38, ?_⟩
  refine List.forall_mem_cons.mpr ⟨ok_bipush hx hb dd_X8_mayStroke_39 (by decide), ?_⟩
  refine List.forall_mem_cons.mpr ⟨ok_isub hx hb dd_X8_mayStroke_41, ?_⟩
  refine List.forall_mem_cons.mpr ⟨ok_callS (n := 2) C0 (h_X8_mayWrite (d + 3) (by omega)) (by decide) wd_1073 wd_1071 wd_1072 wd_107 ⟨by decide +kernel, by decide +kernel, by decide +kernel⟩ dd_X8_mayStroke_42, ?_⟩
  refine List.forall_mem_cons.mpr ⟨ok_if_eq hx hb dd_X8_mayStroke_45 (by decide), ?_⟩
  refine List.forall_mem_cons.mpr ⟨ok_iconst hx hb dd_X8_mayStroke_48 (by decide), ?_⟩
  refine List.forall_mem_cons.mpr ⟨ok_goto hx hb dd_X8_mayStroke_49 (by decide), ?_⟩
  refine List.forall_mem_cons.mpr ⟨ok_iconst hx hb dd_X8_mayStroke_52 (by decide), ?_⟩
  refine List.forall_mem_cons.mpr ⟨ok_zret hx hb hr hlocks hQ dd_X8_mayStroke_53, ?_⟩
  exact fun _ h => absurd h List.not_mem_nil
set_option maxRecDepth 100000 in
theorem vc_X8_mayStroke_0 {kd : Nat → Nat} {K : zK} {X : zX} (hX : ∀ (n pc : Nat) (ls : zLS) (st : List zV) (M : zM), zrun (tb_X8_mayStroke kd K) [] n X pc ls st M → X pc ls st M) {w : Int32} {M : zM} (hk0 : kd 9 = 8) (h : ((w = (20 : Int32)) → K (some (zI ((1 : Int32)))) M) ∧ ((¬ w = (20 : Int32)) → ∀ v1 : Int32, (v1 = zp (isC w.toInt)) → ((v1 = 0) → ∀ v2 : Int32, (v2 = zp (isC (w - (10 : Int32)).toInt)) → ((v2 = 0) → K (some (zI ((0 : Int32)))) M) ∧ ((¬ v2 = 0) → (5 = 1 ∨ 5 = 5 ∨ 5 = 10) ∧ ∃ a3 : Sk, (RpF (M.1 9 5) a3) ∧ (isC (w - (10 : Int32)).toInt) ∧ ∀ v3 : Int32, (v3 = zp (sk_canW a3 (w - (10 : Int32)).toInt = true)) → ((v3 = 0) → K (some (zI ((0 : Int32)))) M) ∧ ((¬ v3 = 0) → K (some (zI ((1 : Int32)))) M))) ∧ ((¬ v1 = 0) → (5 = 1 ∨ 5 = 5 ∨ 5 = 10) ∧ ∃ a4 : Sk, (RpF (M.1 9 5) a4) ∧ (isC w.toInt) ∧ ∀ v4 : Int32, (v4 = zp (sk_canR a4 w.toInt = true)) → ((¬ v4 = 0) → K (some (zI ((1 : Int32)))) M) ∧ ((v4 = 0) → ∀ v5 : Int32, (v5 = zp (isC (w - (10 : Int32)).toInt)) → ((v5 = 0) → K (some (zI ((0 : Int32)))) M) ∧ ((¬ v5 = 0) → (5 = 1 ∨ 5 = 5 ∨ 5 = 10) ∧ ∃ a6 : Sk, (RpF (M.1 9 5) a6) ∧ (isC (w - (10 : Int32)).toInt) ∧ ∀ v6 : Int32, (v6 = zp (sk_canW a6 (w - (10 : Int32)).toInt = true)) → ((v6 = 0) → K (some (zI ((0 : Int32)))) M) ∧ ((¬ v6 = 0) → K (some (zI ((1 : Int32)))) M)))))) : X 0 [some (zR 9 0), some (zI (w))] [] M := hX 27 0 _ [] M (show ((w = (20 : Int32)) → ((1 : Int32) = 0 ∨ (1 : Int32) = 1) ∧ K (some (zI ((1 : Int32)))) M) ∧ ((¬ w = (20 : Int32)) → ∀ v1 : Int32, (v1 = zp (isC w.toInt)) → ((v1 = 0) → ∀ v2 : Int32, (v2 = zp (isC (w - (10 : Int32)).toInt)) → ((v2 = 0) → ((0 : Int32) = 0 ∨ (0 : Int32) = 1) ∧ K (some (zI ((0 : Int32)))) M) ∧ ((¬ v2 = 0) → (kd 9 = 8) ∧ (kd 9 = 8) ∧ (5 = 1 ∨ 5 = 5 ∨ 5 = 10) ∧ ∃ a3 : Sk, (RpF (M.1 9 5) a3) ∧ (isC (w - (10 : Int32)).toInt) ∧ ∀ v3 : Int32, (v3 = zp (sk_canW a3 (w - (10 : Int32)).toInt = true)) → ((v3 = 0) → ((0 : Int32) = 0 ∨ (0 : Int32) = 1) ∧ K (some (zI ((0 : Int32)))) M) ∧ ((¬ v3 = 0) → ((1 : Int32) = 0 ∨ (1 : Int32) = 1) ∧ K (some (zI ((1 : Int32)))) M))) ∧ ((¬ v1 = 0) → (kd 9 = 8) ∧ (kd 9 = 8) ∧ (5 = 1 ∨ 5 = 5 ∨ 5 = 10) ∧ ∃ a4 : Sk, (RpF (M.1 9 5) a4) ∧ (isC w.toInt) ∧ ∀ v4 : Int32, (v4 = zp (sk_canR a4 w.toInt = true)) → ((¬ v4 = 0) → ((1 : Int32) = 0 ∨ (1 : Int32) = 1) ∧ K (some (zI ((1 : Int32)))) M) ∧ ((v4 = 0) → ∀ v5 : Int32, (v5 = zp (isC (w - (10 : Int32)).toInt)) → ((v5 = 0) → ((0 : Int32) = 0 ∨ (0 : Int32) = 1) ∧ K (some (zI ((0 : Int32)))) M) ∧ ((¬ v5 = 0) → (kd 9 = 8) ∧ (kd 9 = 8) ∧ (5 = 1 ∨ 5 = 5 ∨ 5 = 10) ∧ ∃ a6 : Sk, (RpF (M.1 9 5) a6) ∧ (isC (w - (10 : Int32)).toInt) ∧ ∀ v6 : Int32, (v6 = zp (sk_canW a6 (w - (10 : Int32)).toInt = true)) → ((v6 = 0) → ((0 : Int32) = 0 ∨ (0 : Int32) = 1) ∧ K (some (zI ((0 : Int32)))) M) ∧ ((¬ v6 = 0) → ((1 : Int32) = 0 ∨ (1 : Int32) = 1) ∧ K (some (zI ((1 : Int32)))) M))))) from ⟨fun q => have h := h.1 q; ⟨(Or.inr rfl), h⟩, fun q => have h := h.2 q; fun v1 => have h := h v1; fun q => have h := h q; ⟨fun q => have h := h.1 q; fun v2 => have h := h v2; fun q => have h := h q; ⟨fun q => have h := h.1 q; ⟨(Or.inl rfl), h⟩, fun q => have h := h.2 q; ⟨hk0, ⟨hk0, ⟨h.1, have h := h.2; h.elim (fun a3 h => ⟨a3, ⟨h.1, have h := h.2; ⟨h.1, have h := h.2; fun v3 => have h := h v3; fun q => have h := h q; ⟨fun q => have h := h.1 q; ⟨(Or.inl rfl), h⟩, fun q => have h := h.2 q; ⟨(Or.inr rfl), h⟩⟩⟩⟩⟩)⟩⟩⟩⟩, fun q => have h := h.2 q; ⟨hk0, ⟨hk0, ⟨h.1, have h := h.2; h.elim (fun a4 h => ⟨a4, ⟨h.1, have h := h.2; ⟨h.1, have h := h.2; fun v4 => have h := h v4; fun q => have h := h q; ⟨fun q => have h := h.1 q; ⟨(Or.inr rfl), h⟩, fun q => have h := h.2 q; fun v5 => have h := h v5; fun q => have h := h q; ⟨fun q => have h := h.1 q; ⟨(Or.inl rfl), h⟩, fun q => have h := h.2 q; ⟨hk0, ⟨hk0, ⟨h.1, have h := h.2; h.elim (fun a6 h => ⟨a6, ⟨h.1, have h := h.2; ⟨h.1, have h := h.2; fun v6 => have h := h v6; fun q => have h := h q; ⟨fun q => have h := h.1 q; ⟨(Or.inl rfl), h⟩, fun q => have h := h.2 q; ⟨(Or.inr rfl), h⟩⟩⟩⟩⟩)⟩⟩⟩⟩⟩⟩⟩⟩)⟩⟩⟩⟩⟩)
def sp_X8_goStroke : zSpec := fun kd as M K => match as with
  | [.inr (.inr (.inl (9, 0))), .inl w, .inl g, .inl e] => (kd 9 = 8) ∧ ∃ a : Sk, (RpF (M.1 9 5) a) ∧ (0 ≤ w.toInt ∧ w.toInt ≤ 20) ∧ (tr_may a w.toInt = true) ∧ (0 ≤ g.toInt ∧ g.toInt ≤ 4) ∧ (e.toInt = 0 ∨ e.toInt = 1) ∧ ∀ f : Nat → Int32, (RpF f (tr_do a w.toInt g.toInt e.toInt)) → ∀ M' : zM, (M' = zmw M 9 5 f) → K none M'
  | _ => False
theorem rv_X8_goStroke : zrv sp_X8_goStroke 8 3 := by
  intro kd as M K h
  unfold sp_X8_goStroke at h
  split at h
  · exact ⟨_, _, rfl, h.1⟩
  · exact h.elim
theorem dd_X8_goStroke_0 : decode cX8_goStroke 0 = .ok (.iload_n 1, 1) := by decide +kernel
theorem dd_X8_goStroke_1 : decode cX8_goStroke 1 = .ok (.invokestatic 74, 3) := by decide +kernel
theorem dd_X8_goStroke_4 : decode cX8_goStroke 4 = .ok (.ifCond .eq 16, 3) := by decide +kernel
theorem dd_X8_goStroke_7 : decode cX8_goStroke 7 = .ok (.aload_n 0, 1) := by decide +kernel
theorem dd_X8_goStroke_8 : decode cX8_goStroke 8 = .ok (.getfield 27, 3) := by decide +kernel
theorem dd_X8_goStroke_11 : decode cX8_goStroke 11 = .ok (.iload_n 1, 1) := by decide +kernel
theorem dd_X8_goStroke_12 : decode cX8_goStroke 12 = .ok (.invokestatic 99, 3) := by decide +kernel
theorem dd_X8_goStroke_15 : decode cX8_goStroke 15 = .ok (.istore 4, 2) := by decide +kernel
theorem dd_X8_goStroke_17 : decode cX8_goStroke 17 = .ok (.goto 25, 3) := by decide +kernel
theorem dd_X8_goStroke_20 : decode cX8_goStroke 20 = .ok (.iload_n 1, 1) := by decide +kernel
theorem dd_X8_goStroke_21 : decode cX8_goStroke 21 = .ok (.bipush 20, 2) := by decide +kernel
theorem dd_X8_goStroke_23 : decode cX8_goStroke 23 = .ok (.if_icmp .eq 19, 3) := by decide +kernel
theorem dd_X8_goStroke_26 : decode cX8_goStroke 26 = .ok (.aload_n 0, 1) := by decide +kernel
theorem dd_X8_goStroke_27 : decode cX8_goStroke 27 = .ok (.getfield 27, 3) := by decide +kernel
theorem dd_X8_goStroke_30 : decode cX8_goStroke 30 = .ok (.iload_n 1, 1) := by decide +kernel
theorem dd_X8_goStroke_31 : decode cX8_goStroke 31 = .ok (.bipush 10, 2) := by decide +kernel
theorem dd_X8_goStroke_33 : decode cX8_goStroke 33 = .ok (.isub, 1) := by decide +kernel
theorem dd_X8_goStroke_34 : decode cX8_goStroke 34 = .ok (.iconst 0, 1) := by decide +kernel
theorem dd_X8_goStroke_35 : decode cX8_goStroke 35 = .ok (.iload_n 2, 1) := by decide +kernel
theorem dd_X8_goStroke_36 : decode cX8_goStroke 36 = .ok (.iload_n 3, 1) := by decide +kernel
theorem dd_X8_goStroke_37 : decode cX8_goStroke 37 = .ok (.invokestatic 95, 3) := by decide +kernel
theorem dd_X8_goStroke_40 : decode cX8_goStroke 40 = .ok (.istore 4, 2) := by decide +kernel
theorem dd_X8_goStroke_42 : decode cX8_goStroke 42 = .ok (.return_, 1) := by decide +kernel
def tb_X8_goStroke (kd : Nat → Nat) (K : zK) : zTab := [(0, zt_iload 1 1), (1, zt_call kd sp_X8_isCell 1 4), (4, zt_if (fun x => x = 0) (fun x => ¬ x = 0) 20 7), (7, zt_aload 0 8), (8, zt_getR kd 8 0 5 11), (11, zt_iload 1 12), (12, zt_call kd sp_X8_goRub 2 15), (15, zt_istore 4 17), (17, zt_goto 42), (20, zt_iload 1 21), (21, zt_const (zI 20) 23), (23, zt_icmp (fun x y => x = y) (fun x y => ¬ x = y) 42 26), (26, zt_aload 0 27), (27, zt_getR kd 8 0 5 30), (30, zt_iload 1 31), (31, zt_const (zI 10) 33), (33, zt_bin (fun x y => x - y) 34), (34, zt_const (zI 0) 35), (35, zt_iload 2 36), (36, zt_iload 3 37), (37, zt_call kd sp_X8_goWrite 5 40), (40, zt_istore 4 42), (42, zt_vret K)]
set_option maxRecDepth 20000 in
theorem tk_X8_goStroke (d : Nat) (h_X8_isCell : zMS 2 yX8_isCell cX8_isCell 1 (some .boolean) sp_X8_isCell) (h_X8_goRub : zMS 2 yX8_goRub cX8_goRub 3 (some .int) sp_X8_goRub) (h_X8_goWrite : zMS 2 yX8_goWrite cX8_goWrite 6 (some .int) sp_X8_goWrite) : zTrue RX8 cX8_goStroke 5 none (d + 3) (fun kd K => tb_X8_goStroke kd K) := by
  intro p l e R s m args below meth c D cy A ad bl Qm K C0 hr hlocks hQ
  obtain ⟨hx, hb, hml, hown, hts, hK, hD, hA0, hN, hE, ⟨hR1, hR2⟩, hc1, hc2⟩ := id C0
  unfold tb_X8_goStroke
  refine List.forall_mem_cons.mpr ⟨ok_iload_n hx hb rfl dd_X8_goStroke_0, ?_⟩
  refine List.forall_mem_cons.mpr ⟨ok_callS (n := 1) C0 (h_X8_isCell (d + 2) (by omega)) (by decide) wd_924 wd_922 wd_923 wd_107 ⟨by decide +kernel, by decide +kernel, by decide +kernel⟩ dd_X8_goStroke_1, ?_⟩
  refine List.forall_mem_cons.mpr ⟨ok_if_eq hx hb dd_X8_goStroke_4 (by decide), ?_⟩
  refine List.forall_mem_cons.mpr ⟨ok_aload_n hx hb rfl dd_X8_goStroke_7, ?_⟩
  refine List.forall_mem_cons.mpr ⟨ok_getR (j := 6) hx hb hts zi_X8 hown hK zc_X8 (by decide) rfl (fun t fl h => by cases h; rfl) (hts _ wd_846) dd_X8_goStroke_8, ?_⟩
  refine List.forall_mem_cons.mpr ⟨ok_iload_n hx hb rfl dd_X8_goStroke_11, ?_⟩
  refine List.forall_mem_cons.mpr ⟨ok_callS (n := 2) C0 (h_X8_goRub (d + 2) (by omega)) (by decide) wd_964 wd_962 wd_963 wd_107 ⟨by decide +kernel, by decide +kernel, by decide +kernel⟩ dd_X8_goStroke_12, ?_⟩
  refine List.forall_mem_cons.mpr ⟨ok_istore hx hb dd_X8_goStroke_15, ?_⟩
  refine List.forall_mem_cons.mpr ⟨ok_goto hx hb dd_X8_goStroke_17 (by decide), ?_⟩
  refine List.forall_mem_cons.mpr ⟨ok_iload_n hx hb rfl dd_X8_goStroke_20, ?_⟩
  refine List.forall_mem_cons.mpr ⟨ok_bipush hx hb dd_X8_goStroke_21 (by decide), ?_⟩
  refine List.forall_mem_cons.mpr ⟨ok_icmp_eq hx hb dd_X8_goStroke_23 (by decide), ?_⟩
  refine List.forall_mem_cons.mpr ⟨ok_aload_n hx hb rfl dd_X8_goStroke_26, ?_⟩
  refine List.forall_mem_cons.mpr ⟨ok_getR (j := 6) hx hb hts zi_X8 hown hK zc_X8 (by decide) rfl (fun t fl h => by cases h; rfl) (hts _ wd_846) dd_X8_goStroke_27, ?_⟩
  refine List.forall_mem_cons.mpr ⟨ok_iload_n hx hb rfl dd_X8_goStroke_30, ?_⟩
  refine List.forall_mem_cons.mpr ⟨ok_bipush hx hb dd_X8_goStroke_31 (by decide), ?_⟩
  refine List.forall_mem_cons.mpr ⟨ok_isub hx hb dd_X8_goStroke_33, ?_⟩
  refine List.forall_mem_cons.mpr ⟨ok_iconst hx hb dd_X8_goStroke_34 (by decide), ?_⟩
  refine List.forall_mem_cons.mpr ⟨ok_iload_n hx hb rfl dd_X8_goStroke_35, ?_⟩
  refine List.forall_mem_cons.mpr ⟨ok_iload_n hx hb rfl dd_X8_goStroke_36, ?_⟩
  refine List.forall_mem_cons.mpr ⟨ok_callS (n := 5) C0 (h_X8_goWrite (d + 2) (by omega)) (by decide) wd_957 wd_955 wd_956 wd_107 ⟨by decide +kernel, by decide +kernel, by decide +kernel⟩ dd_X8_goStroke_37, ?_⟩
  refine List.forall_mem_cons.mpr ⟨ok_istore hx hb dd_X8_goStroke_40, ?_⟩
  refine List.forall_mem_cons.mpr ⟨ok_vret hx hb hr hlocks hQ dd_X8_goStroke_42, ?_⟩
  exact fun _ h => absurd h List.not_mem_nil
set_option maxRecDepth 100000 in
theorem vc_X8_goStroke_0 {kd : Nat → Nat} {K : zK} {X : zX} (hX : ∀ (n pc : Nat) (ls : zLS) (st : List zV) (M : zM), zrun (tb_X8_goStroke kd K) [] n X pc ls st M → X pc ls st M) {w : Int32} {g : Int32} {e : Int32} {M : zM} (hk0 : kd 9 = 8) (h : ∀ v1 : Int32, (v1 = zp (isC w.toInt)) → ((v1 = 0) → ((w = (20 : Int32)) → K none M) ∧ ((¬ w = (20 : Int32)) → (5 = 1 ∨ 5 = 5 ∨ 5 = 10) ∧ ∃ a2 : Sk, (RpF (M.1 9 5) a2) ∧ (isC (w - (10 : Int32)).toInt) ∧ (sk_canR a2 (w - (10 : Int32)).toInt = false) ∧ (sk_len a2 (w - (10 : Int32)).toInt < 4) ∧ (0 ≤ (0 : Int32).toInt ∧ (0 : Int32).toInt ≤ 5) ∧ (0 ≤ g.toInt ∧ g.toInt ≤ 4) ∧ (e.toInt = 0 ∨ e.toInt = 1) ∧ ∀ v2 : Int32, (v2.toInt = sk_len a2 (w - (10 : Int32)).toInt) → ∀ f2 : Nat → Int32, (RpF f2 (sk_wr a2 (w - (10 : Int32)).toInt (0 : Int32).toInt g.toInt e.toInt)) → (∀ j9, 127 ≤ j9 → f2 j9 = M.1 9 5 j9) → ∀ M2 : zM, (M2 = zmw M 9 5 f2) → K none M2)) ∧ ((¬ v1 = 0) → (5 = 1 ∨ 5 = 5 ∨ 5 = 10) ∧ ∃ a3 : Sk, (RpF (M.1 9 5) a3) ∧ ∃ l3 : Ly, (sk_top a3 w.toInt = some l3) ∧ ∀ v3 : Int32, (v3.toInt = a3.2 - l3.2.2.2.1) → ∀ f3 : Nat → Int32, (RpF f3 (sk_rub a3 w.toInt)) → (∀ j9, 127 ≤ j9 → f3 j9 = M.1 9 5 j9) → ∀ M3 : zM, (M3 = zmw M 9 5 f3) → K none M3)) : X 0 [some (zR 9 0), some (zI (w)), some (zI (g)), some (zI (e)), none] [] M := hX 18 0 _ [] M (show ∀ v1 : Int32, (v1 = zp (isC w.toInt)) → ((v1 = 0) → ((w = (20 : Int32)) → K none M) ∧ ((¬ w = (20 : Int32)) → (kd 9 = 8) ∧ (kd 9 = 8) ∧ (5 = 1 ∨ 5 = 5 ∨ 5 = 10) ∧ ∃ a2 : Sk, (RpF (M.1 9 5) a2) ∧ (isC (w - (10 : Int32)).toInt) ∧ (sk_canR a2 (w - (10 : Int32)).toInt = false) ∧ (sk_len a2 (w - (10 : Int32)).toInt < 4) ∧ (0 ≤ (0 : Int32).toInt ∧ (0 : Int32).toInt ≤ 5) ∧ (0 ≤ g.toInt ∧ g.toInt ≤ 4) ∧ (e.toInt = 0 ∨ e.toInt = 1) ∧ ∀ v2 : Int32, (v2.toInt = sk_len a2 (w - (10 : Int32)).toInt) → ∀ f2 : Nat → Int32, (RpF f2 (sk_wr a2 (w - (10 : Int32)).toInt (0 : Int32).toInt g.toInt e.toInt)) → (∀ j9, 127 ≤ j9 → f2 j9 = M.1 9 5 j9) → ∀ M2 : zM, (M2 = zmw M 9 5 f2) → K none M2)) ∧ ((¬ v1 = 0) → (kd 9 = 8) ∧ (kd 9 = 8) ∧ (5 = 1 ∨ 5 = 5 ∨ 5 = 10) ∧ ∃ a3 : Sk, (RpF (M.1 9 5) a3) ∧ ∃ l3 : Ly, (sk_top a3 w.toInt = some l3) ∧ ∀ v3 : Int32, (v3.toInt = a3.2 - l3.2.2.2.1) → ∀ f3 : Nat → Int32, (RpF f3 (sk_rub a3 w.toInt)) → (∀ j9, 127 ≤ j9 → f3 j9 = M.1 9 5 j9) → ∀ M3 : zM, (M3 = zmw M 9 5 f3) → K none M3) from fun v1 => have h := h v1; fun q => have h := h q; ⟨fun q => have h := h.1 q; ⟨fun q => have h := h.1 q; h, fun q => have h := h.2 q; ⟨hk0, ⟨hk0, ⟨h.1, have h := h.2; h.elim (fun a2 h => ⟨a2, ⟨h.1, have h := h.2; ⟨h.1, have h := h.2; ⟨h.1, have h := h.2; ⟨h.1, have h := h.2; ⟨h.1, have h := h.2; ⟨h.1, have h := h.2; ⟨h.1, have h := h.2; fun v2 => have h := h v2; fun q => have h := h q; fun f2 => have h := h f2; fun q => have h := h q; fun q => have h := h q; fun M2 => have h := h M2; fun q => have h := h q; h⟩⟩⟩⟩⟩⟩⟩⟩)⟩⟩⟩⟩, fun q => have h := h.2 q; ⟨hk0, ⟨hk0, ⟨h.1, have h := h.2; h.elim (fun a3 h => ⟨a3, ⟨h.1, have h := h.2; h.elim (fun l3 h => ⟨l3, ⟨h.1, have h := h.2; fun v3 => have h := h v3; fun q => have h := h q; fun f3 => have h := h f3; fun q => have h := h q; fun q => have h := h q; fun M3 => have h := h M3; fun q => have h := h q; h⟩⟩)⟩⟩)⟩⟩⟩⟩)
