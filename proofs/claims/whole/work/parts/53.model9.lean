def sp_X8_seen : zSpec := fun kd as M K => match as with
  | [.inr (.inr (.inl (9, 0))), .inl c, .inl i, .inl y, .inl e] => (kd 9 = 8) ∧ ∃ s : St, (RpM M s) ∧ ∀ v : Int32, (v.toInt = (ev_seen s c.toInt i.toInt y.toInt e.toInt).1) → ∀ M' : zM, (RpM M' (ev_seen s c.toInt i.toInt y.toInt e.toInt).2) → (fr0 M M') → K (some (.inl v)) M'
  | _ => False
theorem rv_X8_seen : zrv sp_X8_seen 8 4 := by
  intro kd as M K h
  unfold sp_X8_seen at h
  split at h
  · exact ⟨_, _, rfl, h.1⟩
  · exact h.elim
theorem dd_X8_seen_0 : decode cX8_seen 0 = .ok (.aload_n 0, 1) := by decide +kernel
theorem dd_X8_seen_1 : decode cX8_seen 1 = .ok (.iload_n 1, 1) := by decide +kernel
theorem dd_X8_seen_2 : decode cX8_seen 2 = .ok (.iload_n 2, 1) := by decide +kernel
theorem dd_X8_seen_3 : decode cX8_seen 3 = .ok (.invokevirtual 109, 3) := by decide +kernel
theorem dd_X8_seen_6 : decode cX8_seen 6 = .ok (.ifCond .eq 21, 3) := by decide +kernel
theorem dd_X8_seen_9 : decode cX8_seen 9 = .ok (.iload_n 3, 1) := by decide +kernel
theorem dd_X8_seen_10 : decode cX8_seen 10 = .ok (.invokestatic 142, 3) := by decide +kernel
theorem dd_X8_seen_13 : decode cX8_seen 13 = .ok (.ifCond .eq 14, 3) := by decide +kernel
theorem dd_X8_seen_16 : decode cX8_seen 16 = .ok (.iload 4, 2) := by decide +kernel
theorem dd_X8_seen_18 : decode cX8_seen 18 = .ok (.i2l, 1) := by decide +kernel
theorem dd_X8_seen_19 : decode cX8_seen 19 = .ok (.lconst 0, 1) := by decide +kernel
theorem dd_X8_seen_20 : decode cX8_seen 20 = .ok (.lconst 1, 1) := by decide +kernel
theorem dd_X8_seen_21 : decode cX8_seen 21 = .ok (.invokestatic 54, 3) := by decide +kernel
theorem dd_X8_seen_24 : decode cX8_seen 24 = .ok (.ifCond .ne 10, 3) := by decide +kernel
theorem dd_X8_seen_27 : decode cX8_seen 27 = .ok (.aload_n 0, 1) := by decide +kernel
theorem dd_X8_seen_28 : decode cX8_seen 28 = .ok (.bipush (-2), 2) := by decide +kernel
theorem dd_X8_seen_30 : decode cX8_seen 30 = .ok (.invokevirtual 81, 3) := by decide +kernel
theorem dd_X8_seen_33 : decode cX8_seen 33 = .ok (.ireturn, 1) := by decide +kernel
theorem dd_X8_seen_34 : decode cX8_seen 34 = .ok (.aload_n 0, 1) := by decide +kernel
theorem dd_X8_seen_35 : decode cX8_seen 35 = .ok (.getfield 7, 3) := by decide +kernel
theorem dd_X8_seen_38 : decode cX8_seen 38 = .ok (.bipush 127, 2) := by decide +kernel
theorem dd_X8_seen_40 : decode cX8_seen 40 = .ok (.iaload, 1) := by decide +kernel
theorem dd_X8_seen_41 : decode cX8_seen 41 = .ok (.bipush 6, 2) := by decide +kernel
theorem dd_X8_seen_43 : decode cX8_seen 43 = .ok (.if_icmp .ne 8, 3) := by decide +kernel
theorem dd_X8_seen_46 : decode cX8_seen 46 = .ok (.aload_n 0, 1) := by decide +kernel
theorem dd_X8_seen_47 : decode cX8_seen 47 = .ok (.invokevirtual 89, 3) := by decide +kernel
theorem dd_X8_seen_50 : decode cX8_seen 50 = .ok (.ireturn, 1) := by decide +kernel
theorem dd_X8_seen_51 : decode cX8_seen 51 = .ok (.sipush 129, 3) := by decide +kernel
theorem dd_X8_seen_54 : decode cX8_seen 54 = .ok (.iconst 4, 1) := by decide +kernel
theorem dd_X8_seen_55 : decode cX8_seen 55 = .ok (.aload_n 0, 1) := by decide +kernel
theorem dd_X8_seen_56 : decode cX8_seen 56 = .ok (.getfield 7, 3) := by decide +kernel
theorem dd_X8_seen_59 : decode cX8_seen 59 = .ok (.bipush 127, 2) := by decide +kernel
theorem dd_X8_seen_61 : decode cX8_seen 61 = .ok (.iaload, 1) := by decide +kernel
theorem dd_X8_seen_62 : decode cX8_seen 62 = .ok (.imul, 1) := by decide +kernel
theorem dd_X8_seen_63 : decode cX8_seen 63 = .ok (.iadd, 1) := by decide +kernel
theorem dd_X8_seen_64 : decode cX8_seen 64 = .ok (.istore 5, 2) := by decide +kernel
theorem dd_X8_seen_66 : decode cX8_seen 66 = .ok (.aload_n 0, 1) := by decide +kernel
theorem dd_X8_seen_67 : decode cX8_seen 67 = .ok (.getfield 7, 3) := by decide +kernel
theorem dd_X8_seen_70 : decode cX8_seen 70 = .ok (.iload 5, 2) := by decide +kernel
theorem dd_X8_seen_72 : decode cX8_seen 72 = .ok (.iload_n 1, 1) := by decide +kernel
theorem dd_X8_seen_73 : decode cX8_seen 73 = .ok (.iastore, 1) := by decide +kernel
theorem dd_X8_seen_74 : decode cX8_seen 74 = .ok (.aload_n 0, 1) := by decide +kernel
theorem dd_X8_seen_75 : decode cX8_seen 75 = .ok (.getfield 7, 3) := by decide +kernel
theorem dd_X8_seen_78 : decode cX8_seen 78 = .ok (.iload 5, 2) := by decide +kernel
theorem dd_X8_seen_80 : decode cX8_seen 80 = .ok (.iconst 1, 1) := by decide +kernel
theorem dd_X8_seen_81 : decode cX8_seen 81 = .ok (.iadd, 1) := by decide +kernel
theorem dd_X8_seen_82 : decode cX8_seen 82 = .ok (.iload_n 2, 1) := by decide +kernel
theorem dd_X8_seen_83 : decode cX8_seen 83 = .ok (.iastore, 1) := by decide +kernel
theorem dd_X8_seen_84 : decode cX8_seen 84 = .ok (.aload_n 0, 1) := by decide +kernel
theorem dd_X8_seen_85 : decode cX8_seen 85 = .ok (.getfield 7, 3) := by decide +kernel
theorem dd_X8_seen_88 : decode cX8_seen 88 = .ok (.iload 5, 2) := by decide +kernel
theorem dd_X8_seen_90 : decode cX8_seen 90 = .ok (.iconst 2, 1) := by decide +kernel
theorem dd_X8_seen_91 : decode cX8_seen 91 = .ok (.iadd, 1) := by decide +kernel
theorem dd_X8_seen_92 : decode cX8_seen 92 = .ok (.iload_n 3, 1) := by decide +kernel
theorem dd_X8_seen_93 : decode cX8_seen 93 = .ok (.iastore, 1) := by decide +kernel
theorem dd_X8_seen_94 : decode cX8_seen 94 = .ok (.aload_n 0, 1) := by decide +kernel
theorem dd_X8_seen_95 : decode cX8_seen 95 = .ok (.getfield 7, 3) := by decide +kernel
theorem dd_X8_seen_98 : decode cX8_seen 98 = .ok (.iload 5, 2) := by decide +kernel
theorem dd_X8_seen_100 : decode cX8_seen 100 = .ok (.iconst 3, 1) := by decide +kernel
theorem dd_X8_seen_101 : decode cX8_seen 101 = .ok (.iadd, 1) := by decide +kernel
theorem dd_X8_seen_102 : decode cX8_seen 102 = .ok (.iload 4, 2) := by decide +kernel
theorem dd_X8_seen_104 : decode cX8_seen 104 = .ok (.iastore, 1) := by decide +kernel
theorem dd_X8_seen_105 : decode cX8_seen 105 = .ok (.aload_n 0, 1) := by decide +kernel
theorem dd_X8_seen_106 : decode cX8_seen 106 = .ok (.getfield 7, 3) := by decide +kernel
theorem dd_X8_seen_109 : decode cX8_seen 109 = .ok (.bipush 127, 2) := by decide +kernel
theorem dd_X8_seen_111 : decode cX8_seen 111 = .ok (.dup2, 1) := by decide +kernel
theorem dd_X8_seen_112 : decode cX8_seen 112 = .ok (.iaload, 1) := by decide +kernel
theorem dd_X8_seen_113 : decode cX8_seen 113 = .ok (.iconst 1, 1) := by decide +kernel
theorem dd_X8_seen_114 : decode cX8_seen 114 = .ok (.iadd, 1) := by decide +kernel
theorem dd_X8_seen_115 : decode cX8_seen 115 = .ok (.iastore, 1) := by decide +kernel
theorem dd_X8_seen_116 : decode cX8_seen 116 = .ok (.aload_n 0, 1) := by decide +kernel
theorem dd_X8_seen_117 : decode cX8_seen 117 = .ok (.getfield 7, 3) := by decide +kernel
theorem dd_X8_seen_120 : decode cX8_seen 120 = .ok (.bipush 127, 2) := by decide +kernel
theorem dd_X8_seen_122 : decode cX8_seen 122 = .ok (.iaload, 1) := by decide +kernel
theorem dd_X8_seen_123 : decode cX8_seen 123 = .ok (.ireturn, 1) := by decide +kernel
def tb_X8_seen (kd : Nat → Nat) (K : zK) : zTab := [(0, zt_aload 0 1), (1, zt_iload 1 2), (2, zt_iload 2 3), (3, zt_call kd sp_X8_isLayer 3 6), (6, zt_if (fun x => x = 0) (fun x => ¬ x = 0) 27 9), (9, zt_iload 3 10), (10, zt_call kd sp_X8_isYear 1 13), (13, zt_if (fun x => x = 0) (fun x => ¬ x = 0) 27 16), (16, zt_iload 4 18), (18, zt_un (fun x => zL x.toInt64) 19), (19, zt_const (zL 0) 20), (20, zt_const (zL 1) 21), (21, zt_call kd sp_X8_in 3 24), (24, zt_if (fun x => ¬ x = 0) (fun x => x = 0) 34 27), (27, zt_aload 0 28), (28, zt_const (zI (-2)) 30), (30, zt_call kd sp_X8_bad 2 33), (33, zt_iret K), (34, zt_aload 0 35), (35, zt_getR kd 8 0 1 38), (38, zt_const (zI 127) 40), (40, zt_ald kd 0 41), (41, zt_const (zI 6) 43), (43, zt_icmp (fun x y => ¬ x = y) (fun x y => x = y) 51 46), (46, zt_aload 0 47), (47, zt_call kd sp_X8_full 1 50), (50, zt_iret K), (51, zt_const (zI 129) 54), (54, zt_const (zI 4) 55), (55, zt_aload 0 56), (56, zt_getR kd 8 0 1 59), (59, zt_const (zI 127) 61), (61, zt_ald kd 0 62), (62, zt_bin (fun x y => x * y) 63), (63, zt_bin (fun x y => x + y) 64), (64, zt_istore 5 66), (66, zt_aload 0 67), (67, zt_getR kd 8 0 1 70), (70, zt_iload 5 72), (72, zt_iload 1 73), (73, zt_ast kd 0 74), (74, zt_aload 0 75), (75, zt_getR kd 8 0 1 78), (78, zt_iload 5 80), (80, zt_const (zI 1) 81), (81, zt_bin (fun x y => x + y) 82), (82, zt_iload 2 83), (83, zt_ast kd 0 84), (84, zt_aload 0 85), (85, zt_getR kd 8 0 1 88), (88, zt_iload 5 90), (90, zt_const (zI 2) 91), (91, zt_bin (fun x y => x + y) 92), (92, zt_iload 3 93), (93, zt_ast kd 0 94), (94, zt_aload 0 95), (95, zt_getR kd 8 0 1 98), (98, zt_iload 5 100), (100, zt_const (zI 3) 101), (101, zt_bin (fun x y => x + y) 102), (102, zt_iload 4 104), (104, zt_ast kd 0 105), (105, zt_aload 0 106), (106, zt_getR kd 8 0 1 109), (109, zt_const (zI 127) 111), (111, zt_dup2 112), (112, zt_ald kd 0 113), (113, zt_const (zI 1) 114), (114, zt_bin (fun x y => x + y) 115), (115, zt_ast kd 0 116), (116, zt_aload 0 117), (117, zt_getR kd 8 0 1 120), (120, zt_const (zI 127) 122), (122, zt_ald kd 0 123), (123, zt_iret K)]
set_option maxRecDepth 20000 in
theorem tk_X8_seen (d : Nat) (h_X8_isLayer : zMS 3 yX8_isLayer cX8_isLayer 3 (some .boolean) sp_X8_isLayer) (h_X8_isYear : zMS 2 yX8_isYear cX8_isYear 1 (some .boolean) sp_X8_isYear) (h_X8_in : zMS 1 yX8_in cX8_in 6 (some .boolean) sp_X8_in) (h_X8_bad : zMS 1 yX8_bad cX8_bad 2 (some .int) sp_X8_bad) (h_X8_full : zMS 1 yX8_full cX8_full 1 (some .int) sp_X8_full) : zTrue RX8 cX8_seen 6 (some .int) (d + 4) (fun kd K => tb_X8_seen kd K) := by
  intro p l e R s m args below meth c D cy A ad bl Qm K C0 hr hlocks hQ
  obtain ⟨hx, hb, hml, hown, hts, hK, hD, hA0, hN, hE, ⟨hR1, hR2⟩, hc1, hc2⟩ := id C0
  unfold tb_X8_seen
  refine List.forall_mem_cons.mpr ⟨ok_aload_n hx hb rfl dd_X8_seen_0, ?_⟩
  refine List.forall_mem_cons.mpr ⟨ok_iload_n hx hb rfl dd_X8_seen_1, ?_⟩
  refine List.forall_mem_cons.mpr ⟨ok_iload_n hx hb rfl dd_X8_seen_2, ?_⟩
  refine List.forall_mem_cons.mpr ⟨ok_callV (n := 2) zc_X8 rv_X8_isLayer C0 (h_X8_isLayer (d + 3) (by omega)) (by decide) wd_988 wd_985 wd_987 wd_66 wd_107 ⟨rfl, by decide +kernel, by decide +kernel, by decide +kernel⟩ dd_X8_seen_3, ?_⟩
  refine List.forall_mem_cons.mpr ⟨ok_if_eq hx hb dd_X8_seen_6 (by decide), ?_⟩
  refine List.forall_mem_cons.mpr ⟨ok_iload_n hx hb rfl dd_X8_seen_9, ?_⟩
  refine List.forall_mem_cons.mpr ⟨ok_callS (n := 1) C0 (h_X8_isYear (d + 3) (by omega)) (by decide) wd_995 wd_993 wd_994 wd_107 ⟨by decide +kernel, by decide +kernel, by decide +kernel⟩ dd_X8_seen_10, ?_⟩
  refine List.forall_mem_cons.mpr ⟨ok_if_eq hx hb dd_X8_seen_13 (by decide), ?_⟩
  refine List.forall_mem_cons.mpr ⟨ok_iload hx hb dd_X8_seen_16, ?_⟩
  refine List.forall_mem_cons.mpr ⟨ok_i2l hx hb dd_X8_seen_18, ?_⟩
  refine List.forall_mem_cons.mpr ⟨ok_lconst hx hb dd_X8_seen_19 (by decide), ?_⟩
  refine List.forall_mem_cons.mpr ⟨ok_lconst hx hb dd_X8_seen_20 (by decide), ?_⟩
  refine List.forall_mem_cons.mpr ⟨ok_callS (n := 3) C0 (h_X8_in (d + 3) (by omega)) (by decide) wd_928 wd_926 wd_927 wd_107 ⟨by decide +kernel, by decide +kernel, by decide +kernel⟩ dd_X8_seen_21, ?_⟩
  refine List.forall_mem_cons.mpr ⟨ok_if_ne hx hb dd_X8_seen_24 (by decide), ?_⟩
  refine List.forall_mem_cons.mpr ⟨ok_aload_n hx hb rfl dd_X8_seen_27, ?_⟩
  refine List.forall_mem_cons.mpr ⟨ok_bipush hx hb dd_X8_seen_28 (by decide), ?_⟩
  refine List.forall_mem_cons.mpr ⟨ok_callV (n := 1) zc_X8 rv_X8_bad C0 (h_X8_bad (d + 3) (by omega)) (by decide) wd_936 wd_933 wd_935 wd_62 wd_107 ⟨rfl, by decide +kernel, by decide +kernel, by decide +kernel⟩ dd_X8_seen_30, ?_⟩
  refine List.forall_mem_cons.mpr ⟨ok_iret hx hb hr hlocks hQ dd_X8_seen_33, ?_⟩
  refine List.forall_mem_cons.mpr ⟨ok_aload_n hx hb rfl dd_X8_seen_34, ?_⟩
  refine List.forall_mem_cons.mpr ⟨ok_getR (j := 0) hx hb hts zi_X8 hown hK zc_X8 (by decide) rfl (fun t fl h => by cases h; rfl) (hts _ wd_840) dd_X8_seen_35, ?_⟩
  refine List.forall_mem_cons.mpr ⟨ok_bipush hx hb dd_X8_seen_38 (by decide), ?_⟩
  refine List.forall_mem_cons.mpr ⟨ok_ald (ty := 0) rfl hx hb hK (Or.inl ⟨rfl, rfl, dd_X8_seen_40⟩), ?_⟩
  refine List.forall_mem_cons.mpr ⟨ok_bipush hx hb dd_X8_seen_41 (by decide), ?_⟩
  refine List.forall_mem_cons.mpr ⟨ok_icmp_ne hx hb dd_X8_seen_43 (by decide), ?_⟩
  refine List.forall_mem_cons.mpr ⟨ok_aload_n hx hb rfl dd_X8_seen_46, ?_⟩
  refine List.forall_mem_cons.mpr ⟨ok_callV (n := 0) zc_X8 rv_X8_full C0 (h_X8_full (d + 3) (by omega)) (by decide) wd_950 wd_947 wd_949 wd_64 wd_107 ⟨rfl, by decide +kernel, by decide +kernel, by decide +kernel⟩ dd_X8_seen_47, ?_⟩
  refine List.forall_mem_cons.mpr ⟨ok_iret hx hb hr hlocks hQ dd_X8_seen_50, ?_⟩
  refine List.forall_mem_cons.mpr ⟨ok_sipush hx hb dd_X8_seen_51 (by decide), ?_⟩
  refine List.forall_mem_cons.mpr ⟨ok_iconst hx hb dd_X8_seen_54 (by decide), ?_⟩
  refine List.forall_mem_cons.mpr ⟨ok_aload_n hx hb rfl dd_X8_seen_55, ?_⟩
  refine List.forall_mem_cons.mpr ⟨ok_getR (j := 0) hx hb hts zi_X8 hown hK zc_X8 (by decide) rfl (fun t fl h => by cases h; rfl) (hts _ wd_840) dd_X8_seen_56, ?_⟩
  refine List.forall_mem_cons.mpr ⟨ok_bipush hx hb dd_X8_seen_59 (by decide), ?_⟩
  refine List.forall_mem_cons.mpr ⟨ok_ald (ty := 0) rfl hx hb hK (Or.inl ⟨rfl, rfl, dd_X8_seen_61⟩), ?_⟩
  refine List.forall_mem_cons.mpr ⟨ok_imul hx hb dd_X8_seen_62, ?_⟩
  refine List.forall_mem_cons.mpr ⟨ok_iadd hx hb dd_X8_seen_63, ?_⟩
  refine List.forall_mem_cons.mpr ⟨ok_istore hx hb dd_X8_seen_64, ?_⟩
  refine List.forall_mem_cons.mpr ⟨ok_aload_n hx hb rfl dd_X8_seen_66, ?_⟩
  refine List.forall_mem_cons.mpr ⟨ok_getR (j := 0) hx hb hts zi_X8 hown hK zc_X8 (by decide) rfl (fun t fl h => by cases h; rfl) (hts _ wd_840) dd_X8_seen_67, ?_⟩
  refine List.forall_mem_cons.mpr ⟨ok_iload hx hb dd_X8_seen_70, ?_⟩
  refine List.forall_mem_cons.mpr ⟨ok_iload_n hx hb rfl dd_X8_seen_72, ?_⟩
  refine List.forall_mem_cons.mpr ⟨ok_ast (ty := 0) rfl hx hb hK hD (Or.inl ⟨rfl, rfl, dd_X8_seen_73⟩), ?_⟩
  refine List.forall_mem_cons.mpr ⟨ok_aload_n hx hb rfl dd_X8_seen_74, ?_⟩
  refine List.forall_mem_cons.mpr ⟨ok_getR (j := 0) hx hb hts zi_X8 hown hK zc_X8 (by decide) rfl (fun t fl h => by cases h; rfl) (hts _ wd_840) dd_X8_seen_75, ?_⟩
  refine List.forall_mem_cons.mpr ⟨ok_iload hx hb dd_X8_seen_78, ?_⟩
  refine List.forall_mem_cons.mpr ⟨ok_iconst hx hb dd_X8_seen_80 (by decide), ?_⟩
  refine List.forall_mem_cons.mpr ⟨ok_iadd hx hb dd_X8_seen_81, ?_⟩
  refine List.forall_mem_cons.mpr ⟨ok_iload_n hx hb rfl dd_X8_seen_82, ?_⟩
  refine List.forall_mem_cons.mpr ⟨ok_ast (ty := 0) rfl hx hb hK hD (Or.inl ⟨rfl, rfl, dd_X8_seen_83⟩), ?_⟩
  refine List.forall_mem_cons.mpr ⟨ok_aload_n hx hb rfl dd_X8_seen_84, ?_⟩
  refine List.forall_mem_cons.mpr ⟨ok_getR (j := 0) hx hb hts zi_X8 hown hK zc_X8 (by decide) rfl (fun t fl h => by cases h; rfl) (hts _ wd_840) dd_X8_seen_85, ?_⟩
  refine List.forall_mem_cons.mpr ⟨ok_iload hx hb dd_X8_seen_88, ?_⟩
  refine List.forall_mem_cons.mpr ⟨ok_iconst hx hb dd_X8_seen_90 (by decide), ?_⟩
  refine List.forall_mem_cons.mpr ⟨ok_iadd hx hb dd_X8_seen_91, ?_⟩
  refine List.forall_mem_cons.mpr ⟨ok_iload_n hx hb rfl dd_X8_seen_92, ?_⟩
  refine List.forall_mem_cons.mpr ⟨ok_ast (ty := 0) rfl hx hb hK hD (Or.inl ⟨rfl, rfl, dd_X8_seen_93⟩), ?_⟩
  refine List.forall_mem_cons.mpr ⟨ok_aload_n hx hb rfl dd_X8_seen_94, ?_⟩
  refine List.forall_mem_cons.mpr ⟨ok_getR (j := 0) hx hb hts zi_X8 hown hK zc_X8 (by decide) rfl (fun t fl h => by cases h; rfl) (hts _ wd_840) dd_X8_seen_95, ?_⟩
  refine List.forall_mem_cons.mpr ⟨ok_iload hx hb dd_X8_seen_98, ?_⟩
  refine List.forall_mem_cons.mpr ⟨ok_iconst hx hb dd_X8_seen_100 (by decide), ?_⟩
  refine List.forall_mem_cons.mpr ⟨ok_iadd hx hb dd_X8_seen_101, ?_⟩
  refine List.forall_mem_cons.mpr ⟨ok_iload hx hb dd_X8_seen_102, ?_⟩
  refine List.forall_mem_cons.mpr ⟨ok_ast (ty := 0) rfl hx hb hK hD (Or.inl ⟨rfl, rfl, dd_X8_seen_104⟩), ?_⟩
  refine List.forall_mem_cons.mpr ⟨ok_aload_n hx hb rfl dd_X8_seen_105, ?_⟩
  refine List.forall_mem_cons.mpr ⟨ok_getR (j := 0) hx hb hts zi_X8 hown hK zc_X8 (by decide) rfl (fun t fl h => by cases h; rfl) (hts _ wd_840) dd_X8_seen_106, ?_⟩
  refine List.forall_mem_cons.mpr ⟨ok_bipush hx hb dd_X8_seen_109 (by decide), ?_⟩
  refine List.forall_mem_cons.mpr ⟨ok_dup2 hx hb dd_X8_seen_111, ?_⟩
  refine List.forall_mem_cons.mpr ⟨ok_ald (ty := 0) rfl hx hb hK (Or.inl ⟨rfl, rfl, dd_X8_seen_112⟩), ?_⟩
  refine List.forall_mem_cons.mpr ⟨ok_iconst hx hb dd_X8_seen_113 (by decide), ?_⟩
  refine List.forall_mem_cons.mpr ⟨ok_iadd hx hb dd_X8_seen_114, ?_⟩
  refine List.forall_mem_cons.mpr ⟨ok_ast (ty := 0) rfl hx hb hK hD (Or.inl ⟨rfl, rfl, dd_X8_seen_115⟩), ?_⟩
  refine List.forall_mem_cons.mpr ⟨ok_aload_n hx hb rfl dd_X8_seen_116, ?_⟩
  refine List.forall_mem_cons.mpr ⟨ok_getR (j := 0) hx hb hts zi_X8 hown hK zc_X8 (by decide) rfl (fun t fl h => by cases h; rfl) (hts _ wd_840) dd_X8_seen_117, ?_⟩
  refine List.forall_mem_cons.mpr ⟨ok_bipush hx hb dd_X8_seen_120 (by decide), ?_⟩
  refine List.forall_mem_cons.mpr ⟨ok_ald (ty := 0) rfl hx hb hK (Or.inl ⟨rfl, rfl, dd_X8_seen_122⟩), ?_⟩
  refine List.forall_mem_cons.mpr ⟨ok_iret hx hb hr hlocks hQ dd_X8_seen_123, ?_⟩
  exact fun _ h => absurd h List.not_mem_nil
set_option maxRecDepth 100000 in
theorem vc_X8_seen_0 {kd : Nat → Nat} {K : zK} {X : zX} (hX : ∀ (n pc : Nat) (ls : zLS) (st : List zV) (M : zM), zrun (tb_X8_seen kd K) [] n X pc ls st M → X pc ls st M) {c : Int32} {i : Int32} {y : Int32} {e : Int32} {M : zM} (hk0 : kd 9 = 8) (h : ∃ a1 : Sk, (RpF (M.1 9 1) a1) ∧ ∀ v1 : Int32, (v1 = zp ((sk_at a1 c.toInt i.toInt).isSome = true)) → ((v1 = 0) → ∀ v2 : Int32, (v2 = (-2 : Int32)) → ∀ M2 : zM, (M2 = zmw M 9 4 (upd (M.1 9 4) 0 (M.1 9 4 0 + 1))) → K (some (zI (v2))) M2) ∧ ((¬ v1 = 0) → ∀ v3 : Int32, (v3 = zp (isY y.toInt)) → ((v3 = 0) → ∀ v4 : Int32, (v4 = (-2 : Int32)) → ∀ M4 : zM, (M4 = zmw M 9 4 (upd (M.1 9 4) 0 (M.1 9 4 0 + 1))) → K (some (zI (v4))) M4) ∧ ((¬ v3 = 0) → ∀ v5 : Int32, (v5 = zp ((0 : Int64).toInt ≤ e.toInt64.toInt ∧ e.toInt64.toInt ≤ (1 : Int64).toInt)) → ((¬ v5 = 0) → (zin (kd 9) 1 0 (127 : Int32)) ∧ ((¬ (M.1 9 1 ((127 : Int32)).toNatClampNeg) = (6 : Int32)) → (zin (kd 9) 1 0 (127 : Int32)) ∧ (zin (kd 9) 1 0 ((129 : Int32) + ((4 : Int32) * (M.1 9 1 ((127 : Int32)).toNatClampNeg)))) ∧ ∀ M6 : zM, (M6 = zmw M 9 1 (upd (M.1 9 1) ((129 : Int32) + ((4 : Int32) * (M.1 9 1 ((127 : Int32)).toNatClampNeg))).toNatClampNeg c)) → (zin (kd 9) 1 0 (((129 : Int32) + ((4 : Int32) * (M.1 9 1 ((127 : Int32)).toNatClampNeg))) + (1 : Int32))) ∧ ∀ M7 : zM, (M7 = zmw M6 9 1 (upd (M6.1 9 1) (((129 : Int32) + ((4 : Int32) * (M.1 9 1 ((127 : Int32)).toNatClampNeg))) + (1 : Int32)).toNatClampNeg i)) → (zin (kd 9) 1 0 (((129 : Int32) + ((4 : Int32) * (M.1 9 1 ((127 : Int32)).toNatClampNeg))) + (2 : Int32))) ∧ ∀ M8 : zM, (M8 = zmw M7 9 1 (upd (M7.1 9 1) (((129 : Int32) + ((4 : Int32) * (M.1 9 1 ((127 : Int32)).toNatClampNeg))) + (2 : Int32)).toNatClampNeg y)) → (zin (kd 9) 1 0 (((129 : Int32) + ((4 : Int32) * (M.1 9 1 ((127 : Int32)).toNatClampNeg))) + (3 : Int32))) ∧ ∀ M9 : zM, (M9 = zmw M8 9 1 (upd (M8.1 9 1) (((129 : Int32) + ((4 : Int32) * (M.1 9 1 ((127 : Int32)).toNatClampNeg))) + (3 : Int32)).toNatClampNeg e)) → (zin (kd 9) 1 0 (127 : Int32)) ∧ (zin (kd 9) 1 0 (127 : Int32)) ∧ ∀ M10 : zM, (M10 = zmw M9 9 1 (upd (M9.1 9 1) ((127 : Int32)).toNatClampNeg ((M9.1 9 1 ((127 : Int32)).toNatClampNeg) + (1 : Int32)))) → (zin (kd 9) 1 0 (127 : Int32)) ∧ K (some (zI (M10.1 9 1 ((127 : Int32)).toNatClampNeg))) M10) ∧ (((M.1 9 1 ((127 : Int32)).toNatClampNeg) = (6 : Int32)) → ∀ v11 : Int32, (v11.toInt = -4) → ∀ M11 : zM, (M11 = zmw M 9 4 (upd (M.1 9 4) 2 (M.1 9 4 2 + 1))) → K (some (zI (v11))) M11)) ∧ ((v5 = 0) → ∀ v12 : Int32, (v12 = (-2 : Int32)) → ∀ M12 : zM, (M12 = zmw M 9 4 (upd (M.1 9 4) 0 (M.1 9 4 0 + 1))) → K (some (zI (v12))) M12)))) : X 0 [some (zR 9 0), some (zI (c)), some (zI (i)), some (zI (y)), some (zI (e)), none] [] M := hX 69 0 _ [] M (show (kd 9 = 8) ∧ ∃ a1 : Sk, (RpF (M.1 9 1) a1) ∧ ∀ v1 : Int32, (v1 = zp ((sk_at a1 c.toInt i.toInt).isSome = true)) → ((v1 = 0) → (kd 9 = 8) ∧ ∀ v2 : Int32, (v2 = (-2 : Int32)) → ∀ M2 : zM, (M2 = zmw M 9 4 (upd (M.1 9 4) 0 (M.1 9 4 0 + 1))) → K (some (zI (v2))) M2) ∧ ((¬ v1 = 0) → ∀ v3 : Int32, (v3 = zp (isY y.toInt)) → ((v3 = 0) → (kd 9 = 8) ∧ ∀ v4 : Int32, (v4 = (-2 : Int32)) → ∀ M4 : zM, (M4 = zmw M 9 4 (upd (M.1 9 4) 0 (M.1 9 4 0 + 1))) → K (some (zI (v4))) M4) ∧ ((¬ v3 = 0) → ∀ v5 : Int32, (v5 = zp ((0 : Int64).toInt ≤ e.toInt64.toInt ∧ e.toInt64.toInt ≤ (1 : Int64).toInt)) → ((¬ v5 = 0) → (kd 9 = 8) ∧ (zin (kd 9) 1 0 (127 : Int32)) ∧ ((¬ (M.1 9 1 ((127 : Int32)).toNatClampNeg) = (6 : Int32)) → (kd 9 = 8) ∧ (zin (kd 9) 1 0 (127 : Int32)) ∧ (kd 9 = 8) ∧ (zin (kd 9) 1 0 ((129 : Int32) + ((4 : Int32) * (M.1 9 1 ((127 : Int32)).toNatClampNeg)))) ∧ ∀ M6 : zM, (M6 = zmw M 9 1 (upd (M.1 9 1) ((129 : Int32) + ((4 : Int32) * (M.1 9 1 ((127 : Int32)).toNatClampNeg))).toNatClampNeg c)) → (kd 9 = 8) ∧ (zin (kd 9) 1 0 (((129 : Int32) + ((4 : Int32) * (M.1 9 1 ((127 : Int32)).toNatClampNeg))) + (1 : Int32))) ∧ ∀ M7 : zM, (M7 = zmw M6 9 1 (upd (M6.1 9 1) (((129 : Int32) + ((4 : Int32) * (M.1 9 1 ((127 : Int32)).toNatClampNeg))) + (1 : Int32)).toNatClampNeg i)) → (kd 9 = 8) ∧ (zin (kd 9) 1 0 (((129 : Int32) + ((4 : Int32) * (M.1 9 1 ((127 : Int32)).toNatClampNeg))) + (2 : Int32))) ∧ ∀ M8 : zM, (M8 = zmw M7 9 1 (upd (M7.1 9 1) (((129 : Int32) + ((4 : Int32) * (M.1 9 1 ((127 : Int32)).toNatClampNeg))) + (2 : Int32)).toNatClampNeg y)) → (kd 9 = 8) ∧ (zin (kd 9) 1 0 (((129 : Int32) + ((4 : Int32) * (M.1 9 1 ((127 : Int32)).toNatClampNeg))) + (3 : Int32))) ∧ ∀ M9 : zM, (M9 = zmw M8 9 1 (upd (M8.1 9 1) (((129 : Int32) + ((4 : Int32) * (M.1 9 1 ((127 : Int32)).toNatClampNeg))) + (3 : Int32)).toNatClampNeg e)) → (kd 9 = 8) ∧ (zin (kd 9) 1 0 (127 : Int32)) ∧ (zin (kd 9) 1 0 (127 : Int32)) ∧ ∀ M10 : zM, (M10 = zmw M9 9 1 (upd (M9.1 9 1) ((127 : Int32)).toNatClampNeg ((M9.1 9 1 ((127 : Int32)).toNatClampNeg) + (1 : Int32)))) → (kd 9 = 8) ∧ (zin (kd 9) 1 0 (127 : Int32)) ∧ K (some (zI (M10.1 9 1 ((127 : Int32)).toNatClampNeg))) M10) ∧ (((M.1 9 1 ((127 : Int32)).toNatClampNeg) = (6 : Int32)) → (kd 9 = 8) ∧ ∀ v11 : Int32, (v11.toInt = -4) → ∀ M11 : zM, (M11 = zmw M 9 4 (upd (M.1 9 4) 2 (M.1 9 4 2 + 1))) → K (some (zI (v11))) M11)) ∧ ((v5 = 0) → (kd 9 = 8) ∧ ∀ v12 : Int32, (v12 = (-2 : Int32)) → ∀ M12 : zM, (M12 = zmw M 9 4 (upd (M.1 9 4) 0 (M.1 9 4 0 + 1))) → K (some (zI (v12))) M12))) from ⟨hk0, h.elim (fun a1 h => ⟨a1, ⟨h.1, have h := h.2; fun v1 => have h := h v1; fun q => have h := h q; ⟨fun q => have h := h.1 q; ⟨hk0, fun v2 => have h := h v2; fun q => have h := h q; fun M2 => have h := h M2; fun q => have h := h q; h⟩, fun q => have h := h.2 q; fun v3 => have h := h v3; fun q => have h := h q; ⟨fun q => have h := h.1 q; ⟨hk0, fun v4 => have h := h v4; fun q => have h := h q; fun M4 => have h := h M4; fun q => have h := h q; h⟩, fun q => have h := h.2 q; fun v5 => have h := h v5; fun q => have h := h q; ⟨fun q => have h := h.1 q; ⟨hk0, ⟨h.1, have h := h.2; ⟨fun q => have h := h.1 q; ⟨hk0, ⟨h.1, have h := h.2; ⟨hk0, ⟨h.1, have h := h.2; fun M6 => have h := h M6; fun q => have h := h q; ⟨hk0, ⟨h.1, have h := h.2; fun M7 => have h := h M7; fun q => have h := h q; ⟨hk0, ⟨h.1, have h := h.2; fun M8 => have h := h M8; fun q => have h := h q; ⟨hk0, ⟨h.1, have h := h.2; fun M9 => have h := h M9; fun q => have h := h q; ⟨hk0, ⟨h.1, have h := h.2; ⟨h.1, have h := h.2; fun M10 => have h := h M10; fun q => have h := h q; ⟨hk0, ⟨h.1, have h := h.2; h⟩⟩⟩⟩⟩⟩⟩⟩⟩⟩⟩⟩⟩⟩⟩, fun q => have h := h.2 q; ⟨hk0, fun v11 => have h := h v11; fun q => have h := h q; fun M11 => have h := h M11; fun q => have h := h q; h⟩⟩⟩⟩, fun q => have h := h.2 q; ⟨hk0, fun v12 => have h := h v12; fun q => have h := h q; fun M12 => have h := h M12; fun q => have h := h q; h⟩⟩⟩⟩⟩⟩)⟩)
