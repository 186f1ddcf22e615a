
/-- only scratch cells of the model changed -/
def scr (M M' : zM) : Prop := (∀ n, n ≠ 9 → M'.1 n = M.1 n) ∧ M'.2 = M.2 ∧ (∀ o, (1 ≤ o ∧ o ≤ 4 ∨ o = 9) → M'.1 9 o = M.1 9 o) ∧ M'.1 9 0 16 = M.1 9 0 16
def str2 (a : Sk) (g y v fw fs : Int) : Prop := ∃ f2, sRow a g y v 1 f2 ∧ ((f2 ≠ -1 ∧ fw = 2 ∧ fs = f2) ∨ (f2 = -1 ∧ fw = -1))
def str1 (a : Sk) (g y v fw fs : Int) : Prop := (sk_law a g y = v ∧ fw = 0 ∧ fs = -1) ∨ (sk_law a g y ≠ v ∧ ∃ f1, sRow a g y v 0 f1 ∧ ((f1 ≠ -1 ∧ fw = 1 ∧ fs = f1) ∨ (f1 = -1 ∧ str2 a g y v fw fs)))
def sp_X8_tryTwo : zSpec := fun kd as M K => match as with
  | [.inr (.inr (.inl (9, 0))), .inl g, .inl z, .inl y] => (kd 9 = 8) ∧ ∃ a : Sk, (RpF (M.1 9 6) a) ∧ ((M.1 9 0 10).toInt = -1) ∧ (isT g.toInt ∧ inn z.toInt 1 2 ∧ 0 ≤ y.toInt ∧ y.toInt < 1000000) ∧ ∀ M' : zM, (scr M M') → (str2 a g.toInt y.toInt z.toInt (M'.1 9 0 10).toInt (M'.1 9 0 11).toInt) → K none M'
  | _ => False
theorem rv_X8_tryTwo : zrv sp_X8_tryTwo 8 3 := by
  intro kd as M K h
  unfold sp_X8_tryTwo at h
  split at h
  · exact ⟨_, _, rfl, h.1⟩
  · exact h.elim
theorem dd_X8_tryTwo_0 : decode cX8_tryTwo 0 = .ok (.iconst 0, 1) := by decide +kernel
theorem dd_X8_tryTwo_1 : decode cX8_tryTwo 1 = .ok (.istore 4, 2) := by decide +kernel
theorem dd_X8_tryTwo_3 : decode cX8_tryTwo 3 = .ok (.iload 4, 2) := by decide +kernel
theorem dd_X8_tryTwo_5 : decode cX8_tryTwo 5 = .ok (.bipush 16, 2) := by decide +kernel
theorem dd_X8_tryTwo_7 : decode cX8_tryTwo 7 = .ok (.if_icmp .ge 133, 3) := by decide +kernel
theorem dd_X8_tryTwo_10 : decode cX8_tryTwo 10 = .ok (.aload_n 0, 1) := by decide +kernel
theorem dd_X8_tryTwo_11 : decode cX8_tryTwo 11 = .ok (.getfield 157, 3) := by decide +kernel
theorem dd_X8_tryTwo_14 : decode cX8_tryTwo 14 = .ok (.iconst (-1), 1) := by decide +kernel
theorem dd_X8_tryTwo_15 : decode cX8_tryTwo 15 = .ok (.if_icmp .ne 125, 3) := by decide +kernel
theorem dd_X8_tryTwo_18 : decode cX8_tryTwo 18 = .ok (.aload_n 0, 1) := by decide +kernel
theorem dd_X8_tryTwo_19 : decode cX8_tryTwo 19 = .ok (.iconst 0, 1) := by decide +kernel
theorem dd_X8_tryTwo_20 : decode cX8_tryTwo 20 = .ok (.invokevirtual 160, 3) := by decide +kernel
theorem dd_X8_tryTwo_23 : decode cX8_tryTwo 23 = .ok (.aload_n 0, 1) := by decide +kernel
theorem dd_X8_tryTwo_24 : decode cX8_tryTwo 24 = .ok (.iload 4, 2) := by decide +kernel
theorem dd_X8_tryTwo_26 : decode cX8_tryTwo 26 = .ok (.invokevirtual 164, 3) := by decide +kernel
theorem dd_X8_tryTwo_29 : decode cX8_tryTwo 29 = .ok (.ifCond .eq 105, 3) := by decide +kernel
theorem dd_X8_tryTwo_32 : decode cX8_tryTwo 32 = .ok (.aload_n 0, 1) := by decide +kernel
theorem dd_X8_tryTwo_33 : decode cX8_tryTwo 33 = .ok (.iload 4, 2) := by decide +kernel
theorem dd_X8_tryTwo_35 : decode cX8_tryTwo 35 = .ok (.iload_n 1, 1) := by decide +kernel
theorem dd_X8_tryTwo_36 : decode cX8_tryTwo 36 = .ok (.iload_n 2, 1) := by decide +kernel
theorem dd_X8_tryTwo_37 : decode cX8_tryTwo 37 = .ok (.iconst 1, 1) := by decide +kernel
theorem dd_X8_tryTwo_38 : decode cX8_tryTwo 38 = .ok (.if_icmp .ne 7, 3) := by decide +kernel
theorem dd_X8_tryTwo_41 : decode cX8_tryTwo 41 = .ok (.iconst 1, 1) := by decide +kernel
theorem dd_X8_tryTwo_42 : decode cX8_tryTwo 42 = .ok (.goto 4, 3) := by decide +kernel
theorem dd_X8_tryTwo_45 : decode cX8_tryTwo 45 = .ok (.iconst 0, 1) := by decide +kernel
theorem dd_X8_tryTwo_46 : decode cX8_tryTwo 46 = .ok (.invokevirtual 167, 3) := by decide +kernel
theorem dd_X8_tryTwo_49 : decode cX8_tryTwo 49 = .ok (.aload_n 0, 1) := by decide +kernel
theorem dd_X8_tryTwo_50 : decode cX8_tryTwo 50 = .ok (.iconst 1, 1) := by decide +kernel
theorem dd_X8_tryTwo_51 : decode cX8_tryTwo 51 = .ok (.invokevirtual 171, 3) := by decide +kernel
theorem dd_X8_tryTwo_54 : decode cX8_tryTwo 54 = .ok (.iconst 0, 1) := by decide +kernel
theorem dd_X8_tryTwo_55 : decode cX8_tryTwo 55 = .ok (.istore 5, 2) := by decide +kernel
theorem dd_X8_tryTwo_57 : decode cX8_tryTwo 57 = .ok (.iload 5, 2) := by decide +kernel
theorem dd_X8_tryTwo_59 : decode cX8_tryTwo 59 = .ok (.bipush 16, 2) := by decide +kernel
theorem dd_X8_tryTwo_61 : decode cX8_tryTwo 61 = .ok (.if_icmp .ge 73, 3) := by decide +kernel
theorem dd_X8_tryTwo_64 : decode cX8_tryTwo 64 = .ok (.aload_n 0, 1) := by decide +kernel
theorem dd_X8_tryTwo_65 : decode cX8_tryTwo 65 = .ok (.getfield 157, 3) := by decide +kernel
theorem dd_X8_tryTwo_68 : decode cX8_tryTwo 68 = .ok (.iconst (-1), 1) := by decide +kernel
theorem dd_X8_tryTwo_69 : decode cX8_tryTwo 69 = .ok (.if_icmp .ne 65, 3) := by decide +kernel
theorem dd_X8_tryTwo_72 : decode cX8_tryTwo 72 = .ok (.aload_n 0, 1) := by decide +kernel
theorem dd_X8_tryTwo_73 : decode cX8_tryTwo 73 = .ok (.iconst 1, 1) := by decide +kernel
theorem dd_X8_tryTwo_74 : decode cX8_tryTwo 74 = .ok (.invokevirtual 160, 3) := by decide +kernel
theorem dd_X8_tryTwo_77 : decode cX8_tryTwo 77 = .ok (.aload_n 0, 1) := by decide +kernel
theorem dd_X8_tryTwo_78 : decode cX8_tryTwo 78 = .ok (.iload 5, 2) := by decide +kernel
theorem dd_X8_tryTwo_80 : decode cX8_tryTwo 80 = .ok (.invokevirtual 164, 3) := by decide +kernel
theorem dd_X8_tryTwo_83 : decode cX8_tryTwo 83 = .ok (.ifCond .eq 45, 3) := by decide +kernel
theorem dd_X8_tryTwo_86 : decode cX8_tryTwo 86 = .ok (.aload_n 0, 1) := by decide +kernel
theorem dd_X8_tryTwo_87 : decode cX8_tryTwo 87 = .ok (.iload 5, 2) := by decide +kernel
theorem dd_X8_tryTwo_89 : decode cX8_tryTwo 89 = .ok (.iload_n 1, 1) := by decide +kernel
theorem dd_X8_tryTwo_90 : decode cX8_tryTwo 90 = .ok (.iload_n 2, 1) := by decide +kernel
theorem dd_X8_tryTwo_91 : decode cX8_tryTwo 91 = .ok (.iconst 1, 1) := by decide +kernel
theorem dd_X8_tryTwo_92 : decode cX8_tryTwo 92 = .ok (.if_icmp .ne 7, 3) := by decide +kernel
theorem dd_X8_tryTwo_95 : decode cX8_tryTwo 95 = .ok (.iconst 1, 1) := by decide +kernel
theorem dd_X8_tryTwo_96 : decode cX8_tryTwo 96 = .ok (.goto 4, 3) := by decide +kernel
theorem dd_X8_tryTwo_99 : decode cX8_tryTwo 99 = .ok (.iconst 0, 1) := by decide +kernel
theorem dd_X8_tryTwo_100 : decode cX8_tryTwo 100 = .ok (.invokevirtual 167, 3) := by decide +kernel
theorem dd_X8_tryTwo_103 : decode cX8_tryTwo 103 = .ok (.aload_n 0, 1) := by decide +kernel
theorem dd_X8_tryTwo_104 : decode cX8_tryTwo 104 = .ok (.iload 4, 2) := by decide +kernel
theorem dd_X8_tryTwo_106 : decode cX8_tryTwo 106 = .ok (.putfield 174, 3) := by decide +kernel
theorem dd_X8_tryTwo_109 : decode cX8_tryTwo 109 = .ok (.aload_n 0, 1) := by decide +kernel
theorem dd_X8_tryTwo_110 : decode cX8_tryTwo 110 = .ok (.aload_n 0, 1) := by decide +kernel
theorem dd_X8_tryTwo_111 : decode cX8_tryTwo 111 = .ok (.iload_n 1, 1) := by decide +kernel
theorem dd_X8_tryTwo_112 : decode cX8_tryTwo 112 = .ok (.iload_n 3, 1) := by decide +kernel
theorem dd_X8_tryTwo_113 : decode cX8_tryTwo 113 = .ok (.invokevirtual 138, 3) := by decide +kernel
theorem dd_X8_tryTwo_116 : decode cX8_tryTwo 116 = .ok (.iload_n 2, 1) := by decide +kernel
theorem dd_X8_tryTwo_117 : decode cX8_tryTwo 117 = .ok (.if_icmp .ne 7, 3) := by decide +kernel
theorem dd_X8_tryTwo_120 : decode cX8_tryTwo 120 = .ok (.iconst 2, 1) := by decide +kernel
theorem dd_X8_tryTwo_121 : decode cX8_tryTwo 121 = .ok (.goto 4, 3) := by decide +kernel
theorem dd_X8_tryTwo_124 : decode cX8_tryTwo 124 = .ok (.iconst (-1), 1) := by decide +kernel
theorem dd_X8_tryTwo_125 : decode cX8_tryTwo 125 = .ok (.putfield 157, 3) := by decide +kernel
theorem dd_X8_tryTwo_128 : decode cX8_tryTwo 128 = .ok (.iinc 5 1, 3) := by decide +kernel
theorem dd_X8_tryTwo_131 : decode cX8_tryTwo 131 = .ok (.goto (-74), 3) := by decide +kernel
theorem dd_X8_tryTwo_134 : decode cX8_tryTwo 134 = .ok (.iinc 4 1, 3) := by decide +kernel
theorem dd_X8_tryTwo_137 : decode cX8_tryTwo 137 = .ok (.goto (-134), 3) := by decide +kernel
theorem dd_X8_tryTwo_140 : decode cX8_tryTwo 140 = .ok (.return_, 1) := by decide +kernel
def tb_X8_tryTwo (kd : Nat → Nat) (K : zK) : zTab := [(0, zt_const (zI 0) 1), (1, zt_istore 4 3), (3, zt_iload 4 5), (5, zt_const (zI 16) 7), (7, zt_icmp (fun x y => y ≤ x) (fun x y => ¬ y ≤ x) 140 10), (10, zt_aload 0 11), (11, zt_getI kd 8 10 14), (14, zt_const (zI (-1)) 15), (15, zt_icmp (fun x y => ¬ x = y) (fun x y => x = y) 140 18), (18, zt_aload 0 19), (19, zt_const (zI 0) 20), (20, zt_call kd sp_X8_backTo 2 23), (23, zt_aload 0 24), (24, zt_iload 4 26), (26, zt_call kd sp_X8_mayStroke 2 29), (29, zt_if (fun x => x = 0) (fun x => ¬ x = 0) 134 32), (32, zt_aload 0 33), (33, zt_iload 4 35), (35, zt_iload 1 36), (36, zt_iload 2 37), (37, zt_const (zI 1) 38), (38, zt_icmp (fun x y => ¬ x = y) (fun x y => x = y) 45 41), (41, zt_const (zI 1) 42), (42, zt_goto 46), (45, zt_const (zI 0) 46), (46, zt_call kd sp_X8_goStroke 4 49), (49, zt_aload 0 50), (50, zt_const (zI 1) 51), (51, zt_call kd sp_X8_laySkin 2 54), (54, zt_const (zI 0) 55), (55, zt_istore 5 57), (57, zt_iload 5 59), (59, zt_const (zI 16) 61), (61, zt_icmp (fun x y => y ≤ x) (fun x y => ¬ y ≤ x) 134 64), (64, zt_aload 0 65), (65, zt_getI kd 8 10 68), (68, zt_const (zI (-1)) 69), (69, zt_icmp (fun x y => ¬ x = y) (fun x y => x = y) 134 72), (72, zt_aload 0 73), (73, zt_const (zI 1) 74), (74, zt_call kd sp_X8_backTo 2 77), (77, zt_aload 0 78), (78, zt_iload 5 80), (80, zt_call kd sp_X8_mayStroke 2 83), (83, zt_if (fun x => x = 0) (fun x => ¬ x = 0) 128 86), (86, zt_aload 0 87), (87, zt_iload 5 89), (89, zt_iload 1 90), (90, zt_iload 2 91), (91, zt_const (zI 1) 92), (92, zt_icmp (fun x y => ¬ x = y) (fun x y => x = y) 99 95), (95, zt_const (zI 1) 96), (96, zt_goto 100), (99, zt_const (zI 0) 100), (100, zt_call kd sp_X8_goStroke 4 103), (103, zt_aload 0 104), (104, zt_iload 4 106), (106, zt_putI kd 8 11 109), (109, zt_aload 0 110), (110, zt_aload 0 111), (111, zt_iload 1 112), (112, zt_iload 3 113), (113, zt_call kd sp_X8_ruleOf 3 116), (116, zt_iload 2 117), (117, zt_icmp (fun x y => ¬ x = y) (fun x y => x = y) 124 120), (120, zt_const (zI 2) 121), (121, zt_goto 125), (124, zt_const (zI (-1)) 125), (125, zt_putI kd 8 10 128), (128, zt_iinc 5 1 131), (131, zt_goto 57), (134, zt_iinc 4 1 137), (137, zt_goto 3), (140, zt_vret K)]
set_option maxRecDepth 20000 in
theorem tk_X8_tryTwo (d : Nat) (h_X8_backTo : zMS 1 yX8_backTo cX8_backTo 3 none sp_X8_backTo) (h_X8_mayStroke : zMS 4 yX8_mayStroke cX8_mayStroke 2 (some .boolean) sp_X8_mayStroke) (h_X8_goStroke : zMS 3 yX8_goStroke cX8_goStroke 5 none sp_X8_goStroke) (h_X8_laySkin : zMS 1 yX8_laySkin cX8_laySkin 3 none sp_X8_laySkin) (h_X8_ruleOf : zMS 7 yX8_ruleOf cX8_ruleOf 3 (some .int) sp_X8_ruleOf) : zTrue RX8 cX8_tryTwo 6 none (d + 8) (fun kd K => tb_X8_tryTwo kd K) := by
  intro p l e R s m args below meth c D cy A ad bl Qm K C0 hr hlocks hQ
  obtain ⟨hx, hb, hml, hown, hts, hK, hD, hA0, hN, hE, ⟨hR1, hR2⟩, hc1, hc2⟩ := id C0
  unfold tb_X8_tryTwo
  refine List.forall_mem_cons.mpr ⟨ok_iconst hx hb dd_X8_tryTwo_0 (by decide), ?_⟩
  refine List.forall_mem_cons.mpr ⟨ok_istore hx hb dd_X8_tryTwo_1, ?_⟩
  refine List.forall_mem_cons.mpr ⟨ok_iload hx hb dd_X8_tryTwo_3, ?_⟩
  refine List.forall_mem_cons.mpr ⟨ok_bipush hx hb dd_X8_tryTwo_5 (by decide), ?_⟩
  refine List.forall_mem_cons.mpr ⟨ok_icmp_ge hx hb dd_X8_tryTwo_7 (by decide), ?_⟩
  refine List.forall_mem_cons.mpr ⟨ok_aload_n hx hb rfl dd_X8_tryTwo_10, ?_⟩
  refine List.forall_mem_cons.mpr ⟨ok_getI (j := 10) hx hb hts zi_X8 hown hK zc_X8 (by decide) rfl (fun t fl h => by cases h; rfl) (hts _ wd_850) dd_X8_tryTwo_11, ?_⟩
  refine List.forall_mem_cons.mpr ⟨ok_iconst hx hb dd_X8_tryTwo_14 (by decide), ?_⟩
  refine List.forall_mem_cons.mpr ⟨ok_icmp_ne hx hb dd_X8_tryTwo_15 (by decide), ?_⟩
  refine List.forall_mem_cons.mpr ⟨ok_aload_n hx hb rfl dd_X8_tryTwo_18, ?_⟩
  refine List.forall_mem_cons.mpr ⟨ok_iconst hx hb dd_X8_tryTwo_19 (by decide), ?_⟩
  refine List.forall_mem_cons.mpr ⟨ok_callV (n := 1) zc_X8 rv_X8_backTo C0 (h_X8_backTo (d + 7) (by omega)) (by decide) wd_1066 wd_1063 wd_1065 wd_77 wd_107 ⟨rfl, by decide +kernel, by decide +kernel, by decide +kernel⟩ dd_X8_tryTwo_20, ?_⟩
  refine List.forall_mem_cons.mpr ⟨ok_aload_n hx hb rfl dd_X8_tryTwo_23, ?_⟩
  refine List.forall_mem_cons.mpr ⟨ok_iload hx hb dd_X8_tryTwo_24, ?_⟩
  refine List.forall_mem_cons.mpr ⟨ok_callV (n := 1) zc_X8 rv_X8_mayStroke C0 (h_X8_mayStroke (d + 7) (by omega)) (by decide) wd_1070 wd_1067 wd_1069 wd_78 wd_107 ⟨rfl, by decide +kernel, by decide +kernel, by decide +kernel⟩ dd_X8_tryTwo_26, ?_⟩
  refine List.forall_mem_cons.mpr ⟨ok_if_eq hx hb dd_X8_tryTwo_29 (by decide), ?_⟩
  refine List.forall_mem_cons.mpr ⟨ok_aload_n hx hb rfl dd_X8_tryTwo_32, ?_⟩
  refine List.forall_mem_cons.mpr ⟨ok_iload hx hb dd_X8_tryTwo_33, ?_⟩
  refine List.forall_mem_cons.mpr ⟨ok_iload_n hx hb rfl dd_X8_tryTwo_35, ?_⟩
  refine List.forall_mem_cons.mpr ⟨ok_iload_n hx hb rfl dd_X8_tryTwo_36, ?_⟩
  refine List.forall_mem_cons.mpr ⟨ok_iconst hx hb dd_X8_tryTwo_37 (by decide), ?_⟩
  refine List.forall_mem_cons.mpr ⟨ok_icmp_ne hx hb dd_X8_tryTwo_38 (by decide), ?_⟩
  refine List.forall_mem_cons.mpr ⟨ok_iconst hx hb dd_X8_tryTwo_41 (by decide), ?_⟩
  refine List.forall_mem_cons.mpr ⟨ok_goto hx hb dd_X8_tryTwo_42 (by decide), ?_⟩
  refine List.forall_mem_cons.mpr ⟨ok_iconst hx hb dd_X8_tryTwo_45 (by decide), ?_⟩
  refine List.forall_mem_cons.mpr ⟨ok_callV (n := 3) zc_X8 rv_X8_goStroke C0 (h_X8_goStroke (d + 7) (by omega)) (by decide) wd_1077 wd_1074 wd_1076 wd_79 wd_107 ⟨rfl, by decide +kernel, by decide +kernel, by decide +kernel⟩ dd_X8_tryTwo_46, ?_⟩
  refine List.forall_mem_cons.mpr ⟨ok_aload_n hx hb rfl dd_X8_tryTwo_49, ?_⟩
  refine List.forall_mem_cons.mpr ⟨ok_iconst hx hb dd_X8_tryTwo_50 (by decide), ?_⟩
  refine List.forall_mem_cons.mpr ⟨ok_callV (n := 1) zc_X8 rv_X8_laySkin C0 (h_X8_laySkin (d + 7) (by omega)) (by decide) wd_1062 wd_1059 wd_1061 wd_76 wd_107 ⟨rfl, by decide +kernel, by decide +kernel, by decide +kernel⟩ dd_X8_tryTwo_51, ?_⟩
  refine List.forall_mem_cons.mpr ⟨ok_iconst hx hb dd_X8_tryTwo_54 (by decide), ?_⟩
  refine List.forall_mem_cons.mpr ⟨ok_istore hx hb dd_X8_tryTwo_55, ?_⟩
  refine List.forall_mem_cons.mpr ⟨ok_iload hx hb dd_X8_tryTwo_57, ?_⟩
  refine List.forall_mem_cons.mpr ⟨ok_bipush hx hb dd_X8_tryTwo_59 (by decide), ?_⟩
  refine List.forall_mem_cons.mpr ⟨ok_icmp_ge hx hb dd_X8_tryTwo_61 (by decide), ?_⟩
  refine List.forall_mem_cons.mpr ⟨ok_aload_n hx hb rfl dd_X8_tryTwo_64, ?_⟩
  refine List.forall_mem_cons.mpr ⟨ok_getI (j := 10) hx hb hts zi_X8 hown hK zc_X8 (by decide) rfl (fun t fl h => by cases h; rfl) (hts _ wd_850) dd_X8_tryTwo_65, ?_⟩
  refine List.forall_mem_cons.mpr ⟨ok_iconst hx hb dd_X8_tryTwo_68 (by decide), ?_⟩
  refine List.forall_mem_cons.mpr ⟨ok_icmp_ne hx hb dd_X8_tryTwo_69 (by decide), ?_⟩
  refine List.forall_mem_cons.mpr ⟨ok_aload_n hx hb rfl dd_X8_tryTwo_72, ?_⟩
  refine List.forall_mem_cons.mpr ⟨ok_iconst hx hb dd_X8_tryTwo_73 (by decide), ?_⟩
  refine List.forall_mem_cons.mpr ⟨ok_callV (n := 1) zc_X8 rv_X8_backTo C0 (h_X8_backTo (d + 7) (by omega)) (by decide) wd_1066 wd_1063 wd_1065 wd_77 wd_107 ⟨rfl, by decide +kernel, by decide +kernel, by decide +kernel⟩ dd_X8_tryTwo_74, ?_⟩
  refine List.forall_mem_cons.mpr ⟨ok_aload_n hx hb rfl dd_X8_tryTwo_77, ?_⟩
  refine List.forall_mem_cons.mpr ⟨ok_iload hx hb dd_X8_tryTwo_78, ?_⟩
  refine List.forall_mem_cons.mpr ⟨ok_callV (n := 1) zc_X8 rv_X8_mayStroke C0 (h_X8_mayStroke (d + 7) (by omega)) (by decide) wd_1070 wd_1067 wd_1069 wd_78 wd_107 ⟨rfl, by decide +kernel, by decide +kernel, by decide +kernel⟩ dd_X8_tryTwo_80, ?_⟩
  refine List.forall_mem_cons.mpr ⟨ok_if_eq hx hb dd_X8_tryTwo_83 (by decide), ?_⟩
  refine List.forall_mem_cons.mpr ⟨ok_aload_n hx hb rfl dd_X8_tryTwo_86, ?_⟩
  refine List.forall_mem_cons.mpr ⟨ok_iload hx hb dd_X8_tryTwo_87, ?_⟩
  refine List.forall_mem_cons.mpr ⟨ok_iload_n hx hb rfl dd_X8_tryTwo_89, ?_⟩
  refine List.forall_mem_cons.mpr ⟨ok_iload_n hx hb rfl dd_X8_tryTwo_90, ?_⟩
  refine List.forall_mem_cons.mpr ⟨ok_iconst hx hb dd_X8_tryTwo_91 (by decide), ?_⟩
  refine List.forall_mem_cons.mpr ⟨ok_icmp_ne hx hb dd_X8_tryTwo_92 (by decide), ?_⟩
  refine List.forall_mem_cons.mpr ⟨ok_iconst hx hb dd_X8_tryTwo_95 (by decide), ?_⟩
  refine List.forall_mem_cons.mpr ⟨ok_goto hx hb dd_X8_tryTwo_96 (by decide), ?_⟩
  refine List.forall_mem_cons.mpr ⟨ok_iconst hx hb dd_X8_tryTwo_99 (by decide), ?_⟩
  refine List.forall_mem_cons.mpr ⟨ok_callV (n := 3) zc_X8 rv_X8_goStroke C0 (h_X8_goStroke (d + 7) (by omega)) (by decide) wd_1077 wd_1074 wd_1076 wd_79 wd_107 ⟨rfl, by decide +kernel, by decide +kernel, by decide +kernel⟩ dd_X8_tryTwo_100, ?_⟩
  refine List.forall_mem_cons.mpr ⟨ok_aload_n hx hb rfl dd_X8_tryTwo_103, ?_⟩
  refine List.forall_mem_cons.mpr ⟨ok_iload hx hb dd_X8_tryTwo_104, ?_⟩
  refine List.forall_mem_cons.mpr ⟨ok_putI (j := 11) hx hb hts zi_X8 tyX8 tyX8_ok nmX8 hown hK hD zc_X8 (by decide) rfl rfl (by decide +kernel) (fun t fl h => by cases h; rfl) (hts _ wd_851) dd_X8_tryTwo_106, ?_⟩
  refine List.forall_mem_cons.mpr ⟨ok_aload_n hx hb rfl dd_X8_tryTwo_109, ?_⟩
  refine List.forall_mem_cons.mpr ⟨ok_aload_n hx hb rfl dd_X8_tryTwo_110, ?_⟩
  refine List.forall_mem_cons.mpr ⟨ok_iload_n hx hb rfl dd_X8_tryTwo_111, ?_⟩
  refine List.forall_mem_cons.mpr ⟨ok_iload_n hx hb rfl dd_X8_tryTwo_112, ?_⟩
  refine List.forall_mem_cons.mpr ⟨ok_callV (n := 2) zc_X8 rv_X8_ruleOf C0 (h_X8_ruleOf (d + 7) (by omega)) (by decide) wd_1024 wd_1021 wd_1023 wd_72 wd_107 ⟨rfl, by decide +kernel, by decide +kernel, by decide +kernel⟩ dd_X8_tryTwo_113, ?_⟩
  refine List.forall_mem_cons.mpr ⟨ok_iload_n hx hb rfl dd_X8_tryTwo_116, ?_⟩
  refine List.forall_mem_cons.mpr ⟨ok_icmp_ne hx hb dd_X8_tryTwo_117 (by decide), ?_⟩
  refine List.forall_mem_cons.mpr ⟨ok_iconst hx hb dd_X8_tryTwo_120 (by decide), ?_⟩
  refine List.forall_mem_cons.mpr ⟨ok_goto hx hb dd_X8_tryTwo_121 (by decide), ?_⟩
  refine List.forall_mem_cons.mpr ⟨ok_iconst hx hb dd_X8_tryTwo_124 (by decide), ?_⟩
  refine List.forall_mem_cons.mpr ⟨ok_putI (j := 10) hx hb hts zi_X8 tyX8 tyX8_ok nmX8 hown hK hD zc_X8 (by decide) rfl rfl (by decide +kernel) (fun t fl h => by cases h; rfl) (hts _ wd_850) dd_X8_tryTwo_125, ?_⟩
  refine List.forall_mem_cons.mpr ⟨ok_iinc hx hb dd_X8_tryTwo_128 (by decide), ?_⟩
  refine List.forall_mem_cons.mpr ⟨ok_goto hx hb dd_X8_tryTwo_131 (by decide), ?_⟩
  refine List.forall_mem_cons.mpr ⟨ok_iinc hx hb dd_X8_tryTwo_134 (by decide), ?_⟩
  refine List.forall_mem_cons.mpr ⟨ok_goto hx hb dd_X8_tryTwo_137 (by decide), ?_⟩
  refine List.forall_mem_cons.mpr ⟨ok_vret hx hb hr hlocks hQ dd_X8_tryTwo_140, ?_⟩
  exact fun _ h => absurd h List.not_mem_nil
set_option maxRecDepth 100000 in
theorem vc_X8_tryTwo_0 {kd : Nat → Nat} {K : zK} {X : zX} (hX : ∀ (n pc : Nat) (ls : zLS) (st : List zV) (M : zM), zrun (tb_X8_tryTwo kd K) [(3, [5]), (57, [])] n X pc ls st M → X pc ls st M) {g : Int32} {z : Int32} {y : Int32} {M : zM}  (h : X 3 [some (zR 9 0), some (zI (g)), some (zI (z)), some (zI (y)), some (zI ((0 : Int32))), none] [] M) : X 0 [some (zR 9 0), some (zI (g)), some (zI (z)), some (zI (y)), none, none] [] M := hX 4 0 _ [] M (show X 3 [some (zR 9 0), some (zI (g)), some (zI (z)), some (zI (y)), some (zI ((0 : Int32))), none] [] M from h)
set_option maxRecDepth 100000 in
theorem vc_X8_tryTwo_3 {kd : Nat → Nat} {K : zK} {X : zX} (hX : ∀ (n pc : Nat) (ls : zLS) (st : List zV) (M : zM), zrun (tb_X8_tryTwo kd K) [(3, [5]), (57, [])] n X pc ls st M → X pc ls st M) {g : Int32} {z : Int32} {y : Int32} {w : Int32} {M : zM} (hk0 : kd 9 = 8) (h : (((16 : Int32) ≤ w) → K none M) ∧ ((¬ (16 : Int32) ≤ w) → ((¬ (M.1 9 0 10) = (-1 : Int32)) → K none M) ∧ (((M.1 9 0 10) = (-1 : Int32)) → (0 ≤ (0 : Int32).toInt ∧ (0 : Int32).toInt < 4) ∧ ∀ f1 : Nat → Int32, (∀ j9, j9 < 127 → f1 j9 = M.1 9 6 (127 * (0 : Int32).toInt.toNat + j9)) → ∀ M1 : zM, (M1 = zmw M 9 5 f1) → ∃ a2 : Sk, (RpF (M1.1 9 5) a2) ∧ (0 ≤ w.toInt ∧ w.toInt ≤ 20) ∧ ∀ v2 : Int32, (v2 = zp (tr_may a2 w.toInt = true)) → ((v2 = 0) → X 3 [some (zR 9 0), some (zI (g)), some (zI (z)), some (zI (y)), some (zI (w + 1)), none] [] M1) ∧ ((¬ v2 = 0) → ((¬ z = (1 : Int32)) → ∃ a3 : Sk, (RpF (M1.1 9 5) a3) ∧ (0 ≤ w.toInt ∧ w.toInt ≤ 20) ∧ (tr_may a3 w.toInt = true) ∧ (0 ≤ g.toInt ∧ g.toInt ≤ 4) ∧ ((0 : Int32).toInt = 0 ∨ (0 : Int32).toInt = 1) ∧ ∀ f3 : Nat → Int32, (RpF f3 (tr_do a3 w.toInt g.toInt (0 : Int32).toInt)) → ∀ M3 : zM, (M3 = zmw M1 9 5 f3) → (0 ≤ (1 : Int32).toInt ∧ (1 : Int32).toInt < 4) ∧ ∀ f4 : Nat → Int32, (∀ j9, j9 < 127 → f4 (127 * (1 : Int32).toInt.toNat + j9) = M3.1 9 5 j9) → (∀ j9, (j9 < 127 * (1 : Int32).toInt.toNat ∨ 127 * (1 : Int32).toInt.toNat + 127 ≤ j9) → f4 j9 = M3.1 9 6 j9) → ∀ M4 : zM, (M4 = zmw M3 9 6 f4) → X 57 [some (zR 9 0), some (zI (g)), some (zI (z)), some (zI (y)), some (zI (w)), some (zI ((0 : Int32)))] [] M4) ∧ ((z = (1 : Int32)) → ∃ a5 : Sk, (RpF (M1.1 9 5) a5) ∧ (0 ≤ w.toInt ∧ w.toInt ≤ 20) ∧ (tr_may a5 w.toInt = true) ∧ (0 ≤ g.toInt ∧ g.toInt ≤ 4) ∧ ((1 : Int32).toInt = 0 ∨ (1 : Int32).toInt = 1) ∧ ∀ f5 : Nat → Int32, (RpF f5 (tr_do a5 w.toInt g.toInt (1 : Int32).toInt)) → ∀ M5 : zM, (M5 = zmw M1 9 5 f5) → (0 ≤ (1 : Int32).toInt ∧ (1 : Int32).toInt < 4) ∧ ∀ f6 : Nat → Int32, (∀ j9, j9 < 127 → f6 (127 * (1 : Int32).toInt.toNat + j9) = M5.1 9 5 j9) → (∀ j9, (j9 < 127 * (1 : Int32).toInt.toNat ∨ 127 * (1 : Int32).toInt.toNat + 127 ≤ j9) → f6 j9 = M5.1 9 6 j9) → ∀ M6 : zM, (M6 = zmw M5 9 6 f6) → X 57 [some (zR 9 0), some (zI (g)), some (zI (z)), some (zI (y)), some (zI (w)), some (zI ((0 : Int32)))] [] M6))))) : X 3 [some (zR 9 0), some (zI (g)), some (zI (z)), some (zI (y)), some (zI (w)), none] [] M := hX 30 3 _ [] M (show (((16 : Int32) ≤ w) → K none M) ∧ ((¬ (16 : Int32) ≤ w) → (kd 9 = 8) ∧ ((¬ (M.1 9 0 10) = (-1 : Int32)) → K none M) ∧ (((M.1 9 0 10) = (-1 : Int32)) → (kd 9 = 8) ∧ (0 ≤ (0 : Int32).toInt ∧ (0 : Int32).toInt < 4) ∧ ∀ f1 : Nat → Int32, (∀ j9, j9 < 127 → f1 j9 = M.1 9 6 (127 * (0 : Int32).toInt.toNat + j9)) → ∀ M1 : zM, (M1 = zmw M 9 5 f1) → (kd 9 = 8) ∧ ∃ a2 : Sk, (RpF (M1.1 9 5) a2) ∧ (0 ≤ w.toInt ∧ w.toInt ≤ 20) ∧ ∀ v2 : Int32, (v2 = zp (tr_may a2 w.toInt = true)) → ((v2 = 0) → X 3 [some (zR 9 0), some (zI (g)), some (zI (z)), some (zI (y)), some (zI (w + 1)), none] [] M1) ∧ ((¬ v2 = 0) → ((¬ z = (1 : Int32)) → (kd 9 = 8) ∧ ∃ a3 : Sk, (RpF (M1.1 9 5) a3) ∧ (0 ≤ w.toInt ∧ w.toInt ≤ 20) ∧ (tr_may a3 w.toInt = true) ∧ (0 ≤ g.toInt ∧ g.toInt ≤ 4) ∧ ((0 : Int32).toInt = 0 ∨ (0 : Int32).toInt = 1) ∧ ∀ f3 : Nat → Int32, (RpF f3 (tr_do a3 w.toInt g.toInt (0 : Int32).toInt)) → ∀ M3 : zM, (M3 = zmw M1 9 5 f3) → (kd 9 = 8) ∧ (0 ≤ (1 : Int32).toInt ∧ (1 : Int32).toInt < 4) ∧ ∀ f4 : Nat → Int32, (∀ j9, j9 < 127 → f4 (127 * (1 : Int32).toInt.toNat + j9) = M3.1 9 5 j9) → (∀ j9, (j9 < 127 * (1 : Int32).toInt.toNat ∨ 127 * (1 : Int32).toInt.toNat + 127 ≤ j9) → f4 j9 = M3.1 9 6 j9) → ∀ M4 : zM, (M4 = zmw M3 9 6 f4) → X 57 [some (zR 9 0), some (zI (g)), some (zI (z)), some (zI (y)), some (zI (w)), some (zI ((0 : Int32)))] [] M4) ∧ ((z = (1 : Int32)) → (kd 9 = 8) ∧ ∃ a5 : Sk, (RpF (M1.1 9 5) a5) ∧ (0 ≤ w.toInt ∧ w.toInt ≤ 20) ∧ (tr_may a5 w.toInt = true) ∧ (0 ≤ g.toInt ∧ g.toInt ≤ 4) ∧ ((1 : Int32).toInt = 0 ∨ (1 : Int32).toInt = 1) ∧ ∀ f5 : Nat → Int32, (RpF f5 (tr_do a5 w.toInt g.toInt (1 : Int32).toInt)) → ∀ M5 : zM, (M5 = zmw M1 9 5 f5) → (kd 9 = 8) ∧ (0 ≤ (1 : Int32).toInt ∧ (1 : Int32).toInt < 4) ∧ ∀ f6 : Nat → Int32, (∀ j9, j9 < 127 → f6 (127 * (1 : Int32).toInt.toNat + j9) = M5.1 9 5 j9) → (∀ j9, (j9 < 127 * (1 : Int32).toInt.toNat ∨ 127 * (1 : Int32).toInt.toNat + 127 ≤ j9) → f6 j9 = M5.1 9 6 j9) → ∀ M6 : zM, (M6 = zmw M5 9 6 f6) → X 57 [some (zR 9 0), some (zI (g)), some (zI (z)), some (zI (y)), some (zI (w)), some (zI ((0 : Int32)))] [] M6)))) from ⟨fun q => have h := h.1 q; h, fun q => have h := h.2 q; ⟨hk0, ⟨fun q => have h := h.1 q; h, fun q => have h := h.2 q; ⟨hk0, ⟨h.1, have h := h.2; fun f1 => have h := h f1; fun q => have h := h q; fun M1 => have h := h M1; fun q => have h := h q; ⟨hk0, h.elim (fun a2 h => ⟨a2, ⟨h.1, have h := h.2; ⟨h.1, have h := h.2; fun v2 => have h := h v2; fun q => have h := h q; ⟨fun q => have h := h.1 q; h, fun q => have h := h.2 q; ⟨fun q => have h := h.1 q; ⟨hk0, h.elim (fun a3 h => ⟨a3, ⟨h.1, have h := h.2; ⟨h.1, have h := h.2; ⟨h.1, have h := h.2; ⟨h.1, have h := h.2; ⟨h.1, have h := h.2; fun f3 => have h := h f3; fun q => have h := h q; fun M3 => have h := h M3; fun q => have h := h q; ⟨hk0, ⟨h.1, have h := h.2; fun f4 => have h := h f4; fun q => have h := h q; fun q => have h := h q; fun M4 => have h := h M4; fun q => have h := h q; h⟩⟩⟩⟩⟩⟩⟩⟩)⟩, fun q => have h := h.2 q; ⟨hk0, h.elim (fun a5 h => ⟨a5, ⟨h.1, have h := h.2; ⟨h.1, have h := h.2; ⟨h.1, have h := h.2; ⟨h.1, have h := h.2; ⟨h.1, have h := h.2; fun f5 => have h := h f5; fun q => have h := h q; fun M5 => have h := h M5; fun q => have h := h q; ⟨hk0, ⟨h.1, have h := h.2; fun f6 => have h := h f6; fun q => have h := h q; fun q => have h := h q; fun M6 => have h := h M6; fun q => have h := h q; h⟩⟩⟩⟩⟩⟩⟩⟩)⟩⟩⟩⟩⟩⟩)⟩⟩⟩⟩⟩⟩)
set_option maxRecDepth 100000 in
theorem vc_X8_tryTwo_57 {kd : Nat → Nat} {K : zK} {X : zX} (hX : ∀ (n pc : Nat) (ls : zLS) (st : List zV) (M : zM), zrun (tb_X8_tryTwo kd K) [(3, [5]), (57, [])] n X pc ls st M → X pc ls st M) {g : Int32} {z : Int32} {y : Int32} {w : Int32} {u : Int32} {M : zM} (hk0 : kd 9 = 8) (h : (((16 : Int32) ≤ u) → X 3 [some (zR 9 0), some (zI (g)), some (zI (z)), some (zI (y)), some (zI (w + 1)), none] [] M) ∧ ((¬ (16 : Int32) ≤ u) → ((¬ (M.1 9 0 10) = (-1 : Int32)) → X 3 [some (zR 9 0), some (zI (g)), some (zI (z)), some (zI (y)), some (zI (w + 1)), none] [] M) ∧ (((M.1 9 0 10) = (-1 : Int32)) → (0 ≤ (1 : Int32).toInt ∧ (1 : Int32).toInt < 4) ∧ ∀ f1 : Nat → Int32, (∀ j9, j9 < 127 → f1 j9 = M.1 9 6 (127 * (1 : Int32).toInt.toNat + j9)) → ∀ M1 : zM, (M1 = zmw M 9 5 f1) → ∃ a2 : Sk, (RpF (M1.1 9 5) a2) ∧ (0 ≤ u.toInt ∧ u.toInt ≤ 20) ∧ ∀ v2 : Int32, (v2 = zp (tr_may a2 u.toInt = true)) → ((v2 = 0) → X 57 [some (zR 9 0), some (zI (g)), some (zI (z)), some (zI (y)), some (zI (w)), some (zI (u + 1))] [] M1) ∧ ((¬ v2 = 0) → ((¬ z = (1 : Int32)) → ∃ a3 : Sk, (RpF (M1.1 9 5) a3) ∧ (0 ≤ u.toInt ∧ u.toInt ≤ 20) ∧ (tr_may a3 u.toInt = true) ∧ (0 ≤ g.toInt ∧ g.toInt ≤ 4) ∧ ((0 : Int32).toInt = 0 ∨ (0 : Int32).toInt = 1) ∧ ∀ f3 : Nat → Int32, (RpF f3 (tr_do a3 u.toInt g.toInt (0 : Int32).toInt)) → ∀ M3 : zM, (M3 = zmw M1 9 5 f3) → ∀ M4 : zM, (M4 = zmw M3 9 0 (upd (M3.1 9 0) 11 w)) → ∃ a5 : Sk, (RpF (M4.1 9 5) a5) ∧ (0 ≤ y.toInt ∧ y.toInt < 1000000) ∧ ∀ v5 : Int32, (v5.toInt = sk_law a5 g.toInt y.toInt) → ∀ f5 : Nat → Int32, ((f5 7).toInt = sk_N a5 g.toInt 1 y.toInt ∧ (f5 8).toInt = sk_N a5 g.toInt 0 y.toInt ∧ ∀ j9, j9 ≠ 7 → j9 ≠ 8 → f5 j9 = M4.1 9 0 j9) → ∀ M5 : zM, (M5 = zmw M4 9 0 f5) → ((¬ v5 = z) → ∀ M6 : zM, (M6 = zmw M5 9 0 (upd (M5.1 9 0) 10 (-1 : Int32))) → X 57 [some (zR 9 0), some (zI (g)), some (zI (z)), some (zI (y)), some (zI (w)), some (zI (u + 1))] [] M6) ∧ ((v5 = z) → ∀ M7 : zM, (M7 = zmw M5 9 0 (upd (M5.1 9 0) 10 (2 : Int32))) → X 57 [some (zR 9 0), some (zI (g)), some (zI (z)), some (zI (y)), some (zI (w)), some (zI (u + 1))] [] M7)) ∧ ((z = (1 : Int32)) → ∃ a8 : Sk, (RpF (M1.1 9 5) a8) ∧ (0 ≤ u.toInt ∧ u.toInt ≤ 20) ∧ (tr_may a8 u.toInt = true) ∧ (0 ≤ g.toInt ∧ g.toInt ≤ 4) ∧ ((1 : Int32).toInt = 0 ∨ (1 : Int32).toInt = 1) ∧ ∀ f8 : Nat → Int32, (RpF f8 (tr_do a8 u.toInt g.toInt (1 : Int32).toInt)) → ∀ M8 : zM, (M8 = zmw M1 9 5 f8) → ∀ M9 : zM, (M9 = zmw M8 9 0 (upd (M8.1 9 0) 11 w)) → ∃ a10 : Sk, (RpF (M9.1 9 5) a10) ∧ (0 ≤ y.toInt ∧ y.toInt < 1000000) ∧ ∀ v10 : Int32, (v10.toInt = sk_law a10 g.toInt y.toInt) → ∀ f10 : Nat → Int32, ((f10 7).toInt = sk_N a10 g.toInt 1 y.toInt ∧ (f10 8).toInt = sk_N a10 g.toInt 0 y.toInt ∧ ∀ j9, j9 ≠ 7 → j9 ≠ 8 → f10 j9 = M9.1 9 0 j9) → ∀ M10 : zM, (M10 = zmw M9 9 0 f10) → ((¬ v10 = z) → ∀ M11 : zM, (M11 = zmw M10 9 0 (upd (M10.1 9 0) 10 (-1 : Int32))) → X 57 [some (zR 9 0), some (zI (g)), some (zI (z)), some (zI (y)), some (zI (w)), some (zI (u + 1))] [] M11) ∧ ((v10 = z) → ∀ M12 : zM, (M12 = zmw M10 9 0 (upd (M10.1 9 0) 10 (2 : Int32))) → X 57 [some (zR 9 0), some (zI (g)), some (zI (z)), some (zI (y)), some (zI (w)), some (zI (u + 1))] [] M12)))))) : X 57 [some (zR 9 0), some (zI (g)), some (zI (z)), some (zI (y)), some (zI (w)), some (zI (u))] [] M := hX 40 57 _ [] M (show (((16 : Int32) ≤ u) → X 3 [some (zR 9 0), some (zI (g)), some (zI (z)), some (zI (y)), some (zI (w + 1)), none] [] M) ∧ ((¬ (16 : Int32) ≤ u) → (kd 9 = 8) ∧ ((¬ (M.1 9 0 10) = (-1 : Int32)) → X 3 [some (zR 9 0), some (zI (g)), some (zI (z)), some (zI (y)), some (zI (w + 1)), none] [] M) ∧ (((M.1 9 0 10) = (-1 : Int32)) → (kd 9 = 8) ∧ (0 ≤ (1 : Int32).toInt ∧ (1 : Int32).toInt < 4) ∧ ∀ f1 : Nat → Int32, (∀ j9, j9 < 127 → f1 j9 = M.1 9 6 (127 * (1 : Int32).toInt.toNat + j9)) → ∀ M1 : zM, (M1 = zmw M 9 5 f1) → (kd 9 = 8) ∧ ∃ a2 : Sk, (RpF (M1.1 9 5) a2) ∧ (0 ≤ u.toInt ∧ u.toInt ≤ 20) ∧ ∀ v2 : Int32, (v2 = zp (tr_may a2 u.toInt = true)) → ((v2 = 0) → X 57 [some (zR 9 0), some (zI (g)), some (zI (z)), some (zI (y)), some (zI (w)), some (zI (u + 1))] [] M1) ∧ ((¬ v2 = 0) → ((¬ z = (1 : Int32)) → (kd 9 = 8) ∧ ∃ a3 : Sk, (RpF (M1.1 9 5) a3) ∧ (0 ≤ u.toInt ∧ u.toInt ≤ 20) ∧ (tr_may a3 u.toInt = true) ∧ (0 ≤ g.toInt ∧ g.toInt ≤ 4) ∧ ((0 : Int32).toInt = 0 ∨ (0 : Int32).toInt = 1) ∧ ∀ f3 : Nat → Int32, (RpF f3 (tr_do a3 u.toInt g.toInt (0 : Int32).toInt)) → ∀ M3 : zM, (M3 = zmw M1 9 5 f3) → (kd 9 = 8) ∧ ∀ M4 : zM, (M4 = zmw M3 9 0 (upd (M3.1 9 0) 11 w)) → (kd 9 = 8) ∧ ∃ a5 : Sk, (RpF (M4.1 9 5) a5) ∧ (0 ≤ y.toInt ∧ y.toInt < 1000000) ∧ ∀ v5 : Int32, (v5.toInt = sk_law a5 g.toInt y.toInt) → ∀ f5 : Nat → Int32, ((f5 7).toInt = sk_N a5 g.toInt 1 y.toInt ∧ (f5 8).toInt = sk_N a5 g.toInt 0 y.toInt ∧ ∀ j9, j9 ≠ 7 → j9 ≠ 8 → f5 j9 = M4.1 9 0 j9) → ∀ M5 : zM, (M5 = zmw M4 9 0 f5) → ((¬ v5 = z) → (kd 9 = 8) ∧ ∀ M6 : zM, (M6 = zmw M5 9 0 (upd (M5.1 9 0) 10 (-1 : Int32))) → X 57 [some (zR 9 0), some (zI (g)), some (zI (z)), some (zI (y)), some (zI (w)), some (zI (u + 1))] [] M6) ∧ ((v5 = z) → (kd 9 = 8) ∧ ∀ M7 : zM, (M7 = zmw M5 9 0 (upd (M5.1 9 0) 10 (2 : Int32))) → X 57 [some (zR 9 0), some (zI (g)), some (zI (z)), some (zI (y)), some (zI (w)), some (zI (u + 1))] [] M7)) ∧ ((z = (1 : Int32)) → (kd 9 = 8) ∧ ∃ a8 : Sk, (RpF (M1.1 9 5) a8) ∧ (0 ≤ u.toInt ∧ u.toInt ≤ 20) ∧ (tr_may a8 u.toInt = true) ∧ (0 ≤ g.toInt ∧ g.toInt ≤ 4) ∧ ((1 : Int32).toInt = 0 ∨ (1 : Int32).toInt = 1) ∧ ∀ f8 : Nat → Int32, (RpF f8 (tr_do a8 u.toInt g.toInt (1 : Int32).toInt)) → ∀ M8 : zM, (M8 = zmw M1 9 5 f8) → (kd 9 = 8) ∧ ∀ M9 : zM, (M9 = zmw M8 9 0 (upd (M8.1 9 0) 11 w)) → (kd 9 = 8) ∧ ∃ a10 : Sk, (RpF (M9.1 9 5) a10) ∧ (0 ≤ y.toInt ∧ y.toInt < 1000000) ∧ ∀ v10 : Int32, (v10.toInt = sk_law a10 g.toInt y.toInt) → ∀ f10 : Nat → Int32, ((f10 7).toInt = sk_N a10 g.toInt 1 y.toInt ∧ (f10 8).toInt = sk_N a10 g.toInt 0 y.toInt ∧ ∀ j9, j9 ≠ 7 → j9 ≠ 8 → f10 j9 = M9.1 9 0 j9) → ∀ M10 : zM, (M10 = zmw M9 9 0 f10) → ((¬ v10 = z) → (kd 9 = 8) ∧ ∀ M11 : zM, (M11 = zmw M10 9 0 (upd (M10.1 9 0) 10 (-1 : Int32))) → X 57 [some (zR 9 0), some (zI (g)), some (zI (z)), some (zI (y)), some (zI (w)), some (zI (u + 1))] [] M11) ∧ ((v10 = z) → (kd 9 = 8) ∧ ∀ M12 : zM, (M12 = zmw M10 9 0 (upd (M10.1 9 0) 10 (2 : Int32))) → X 57 [some (zR 9 0), some (zI (g)), some (zI (z)), some (zI (y)), some (zI (w)), some (zI (u + 1))] [] M12))))) from ⟨fun q => have h := h.1 q; h, fun q => have h := h.2 q; ⟨hk0, ⟨fun q => have h := h.1 q; h, fun q => have h := h.2 q; ⟨hk0, ⟨h.1, have h := h.2; fun f1 => have h := h f1; fun q => have h := h q; fun M1 => have h := h M1; fun q => have h := h q; ⟨hk0, h.elim (fun a2 h => ⟨a2, ⟨h.1, have h := h.2; ⟨h.1, have h := h.2; fun v2 => have h := h v2; fun q => have h := h q; ⟨fun q => have h := h.1 q; h, fun q => have h := h.2 q; ⟨fun q => have h := h.1 q; ⟨hk0, h.elim (fun a3 h => ⟨a3, ⟨h.1, have h := h.2; ⟨h.1, have h := h.2; ⟨h.1, have h := h.2; ⟨h.1, have h := h.2; ⟨h.1, have h := h.2; fun f3 => have h := h f3; fun q => have h := h q; fun M3 => have h := h M3; fun q => have h := h q; ⟨hk0, fun M4 => have h := h M4; fun q => have h := h q; ⟨hk0, h.elim (fun a5 h => ⟨a5, ⟨h.1, have h := h.2; ⟨h.1, have h := h.2; fun v5 => have h := h v5; fun q => have h := h q; fun f5 => have h := h f5; fun q => have h := h q; fun M5 => have h := h M5; fun q => have h := h q; ⟨fun q => have h := h.1 q; ⟨hk0, fun M6 => have h := h M6; fun q => have h := h q; h⟩, fun q => have h := h.2 q; ⟨hk0, fun M7 => have h := h M7; fun q => have h := h q; h⟩⟩⟩⟩⟩)⟩⟩⟩⟩⟩⟩⟩⟩)⟩, fun q => have h := h.2 q; ⟨hk0, h.elim (fun a8 h => ⟨a8, ⟨h.1, have h := h.2; ⟨h.1, have h := h.2; ⟨h.1, have h := h.2; ⟨h.1, have h := h.2; ⟨h.1, have h := h.2; fun f8 => have h := h f8; fun q => have h := h q; fun M8 => have h := h M8; fun q => have h := h q; ⟨hk0, fun M9 => have h := h M9; fun q => have h := h q; ⟨hk0, h.elim (fun a10 h => ⟨a10, ⟨h.1, have h := h.2; ⟨h.1, have h := h.2; fun v10 => have h := h v10; fun q => have h := h q; fun f10 => have h := h f10; fun q => have h := h q; fun M10 => have h := h M10; fun q => have h := h q; ⟨fun q => have h := h.1 q; ⟨hk0, fun M11 => have h := h M11; fun q => have h := h q; h⟩, fun q => have h := h.2 q; ⟨hk0, fun M12 => have h := h M12; fun q => have h := h q; h⟩⟩⟩⟩⟩)⟩⟩⟩⟩⟩⟩⟩⟩)⟩⟩⟩⟩⟩⟩)⟩⟩⟩⟩⟩⟩)
def sp_X8_layStrokes : zSpec := fun kd as M K => match as with
  | [.inr (.inr (.inl (9, 0))), .inl g, .inl z, .inl y] => (kd 9 = 8) ∧ ∃ a : Sk, (RpF (M.1 9 1) a) ∧ (isT g.toInt ∧ inn z.toInt 1 2 ∧ 0 ≤ y.toInt ∧ y.toInt < 1000000) ∧ ∀ M' : zM, (scr M M') → (str1 a g.toInt y.toInt z.toInt (M'.1 9 0 10).toInt (M'.1 9 0 11).toInt) → K none M'
  | _ => False
theorem rv_X8_layStrokes : zrv sp_X8_layStrokes 8 3 := by
  intro kd as M K h
  unfold sp_X8_layStrokes at h
  split at h
  · exact ⟨_, _, rfl, h.1⟩
  · exact h.elim
theorem dd_X8_layStrokes_0 : decode cX8_layStrokes 0 = .ok (.aload_n 0, 1) := by decide +kernel
theorem dd_X8_layStrokes_1 : decode cX8_layStrokes 1 = .ok (.invokevirtual 145, 3) := by decide +kernel
theorem dd_X8_layStrokes_4 : decode cX8_layStrokes 4 = .ok (.aload_n 0, 1) := by decide +kernel
theorem dd_X8_layStrokes_5 : decode cX8_layStrokes 5 = .ok (.iconst 0, 1) := by decide +kernel
theorem dd_X8_layStrokes_6 : decode cX8_layStrokes 6 = .ok (.invokevirtual 171, 3) := by decide +kernel
theorem dd_X8_layStrokes_9 : decode cX8_layStrokes 9 = .ok (.aload_n 0, 1) := by decide +kernel
theorem dd_X8_layStrokes_10 : decode cX8_layStrokes 10 = .ok (.iconst (-1), 1) := by decide +kernel
theorem dd_X8_layStrokes_11 : decode cX8_layStrokes 11 = .ok (.putfield 174, 3) := by decide +kernel
theorem dd_X8_layStrokes_14 : decode cX8_layStrokes 14 = .ok (.aload_n 0, 1) := by decide +kernel
theorem dd_X8_layStrokes_15 : decode cX8_layStrokes 15 = .ok (.aload_n 0, 1) := by decide +kernel
theorem dd_X8_layStrokes_16 : decode cX8_layStrokes 16 = .ok (.iload_n 1, 1) := by decide +kernel
theorem dd_X8_layStrokes_17 : decode cX8_layStrokes 17 = .ok (.iload_n 3, 1) := by decide +kernel
theorem dd_X8_layStrokes_18 : decode cX8_layStrokes 18 = .ok (.invokevirtual 138, 3) := by decide +kernel
theorem dd_X8_layStrokes_21 : decode cX8_layStrokes 21 = .ok (.iload_n 2, 1) := by decide +kernel
theorem dd_X8_layStrokes_22 : decode cX8_layStrokes 22 = .ok (.if_icmp .ne 7, 3) := by decide +kernel
theorem dd_X8_layStrokes_25 : decode cX8_layStrokes 25 = .ok (.iconst 0, 1) := by decide +kernel
theorem dd_X8_layStrokes_26 : decode cX8_layStrokes 26 = .ok (.goto 4, 3) := by decide +kernel
theorem dd_X8_layStrokes_29 : decode cX8_layStrokes 29 = .ok (.iconst (-1), 1) := by decide +kernel
theorem dd_X8_layStrokes_30 : decode cX8_layStrokes 30 = .ok (.putfield 157, 3) := by decide +kernel
theorem dd_X8_layStrokes_33 : decode cX8_layStrokes 33 = .ok (.iconst 0, 1) := by decide +kernel
theorem dd_X8_layStrokes_34 : decode cX8_layStrokes 34 = .ok (.istore 4, 2) := by decide +kernel
theorem dd_X8_layStrokes_36 : decode cX8_layStrokes 36 = .ok (.iload 4, 2) := by decide +kernel
theorem dd_X8_layStrokes_38 : decode cX8_layStrokes 38 = .ok (.bipush 16, 2) := by decide +kernel
theorem dd_X8_layStrokes_40 : decode cX8_layStrokes 40 = .ok (.if_icmp .ge 73, 3) := by decide +kernel
theorem dd_X8_layStrokes_43 : decode cX8_layStrokes 43 = .ok (.aload_n 0, 1) := by decide +kernel
theorem dd_X8_layStrokes_44 : decode cX8_layStrokes 44 = .ok (.getfield 157, 3) := by decide +kernel
theorem dd_X8_layStrokes_47 : decode cX8_layStrokes 47 = .ok (.iconst (-1), 1) := by decide +kernel
theorem dd_X8_layStrokes_48 : decode cX8_layStrokes 48 = .ok (.if_icmp .ne 65, 3) := by decide +kernel
theorem dd_X8_layStrokes_51 : decode cX8_layStrokes 51 = .ok (.aload_n 0, 1) := by decide +kernel
theorem dd_X8_layStrokes_52 : decode cX8_layStrokes 52 = .ok (.iconst 0, 1) := by decide +kernel
theorem dd_X8_layStrokes_53 : decode cX8_layStrokes 53 = .ok (.invokevirtual 160, 3) := by decide +kernel
theorem dd_X8_layStrokes_56 : decode cX8_layStrokes 56 = .ok (.aload_n 0, 1) := by decide +kernel
theorem dd_X8_layStrokes_57 : decode cX8_layStrokes 57 = .ok (.iload 4, 2) := by decide +kernel
theorem dd_X8_layStrokes_59 : decode cX8_layStrokes 59 = .ok (.invokevirtual 164, 3) := by decide +kernel
theorem dd_X8_layStrokes_62 : decode cX8_layStrokes 62 = .ok (.ifCond .eq 45, 3) := by decide +kernel
theorem dd_X8_layStrokes_65 : decode cX8_layStrokes 65 = .ok (.aload_n 0, 1) := by decide +kernel
theorem dd_X8_layStrokes_66 : decode cX8_layStrokes 66 = .ok (.iload 4, 2) := by decide +kernel
theorem dd_X8_layStrokes_68 : decode cX8_layStrokes 68 = .ok (.iload_n 1, 1) := by decide +kernel
theorem dd_X8_layStrokes_69 : decode cX8_layStrokes 69 = .ok (.iload_n 2, 1) := by decide +kernel
theorem dd_X8_layStrokes_70 : decode cX8_layStrokes 70 = .ok (.iconst 1, 1) := by decide +kernel
theorem dd_X8_layStrokes_71 : decode cX8_layStrokes 71 = .ok (.if_icmp .ne 7, 3) := by decide +kernel
theorem dd_X8_layStrokes_74 : decode cX8_layStrokes 74 = .ok (.iconst 1, 1) := by decide +kernel
theorem dd_X8_layStrokes_75 : decode cX8_layStrokes 75 = .ok (.goto 4, 3) := by decide +kernel
theorem dd_X8_layStrokes_78 : decode cX8_layStrokes 78 = .ok (.iconst 0, 1) := by decide +kernel
theorem dd_X8_layStrokes_79 : decode cX8_layStrokes 79 = .ok (.invokevirtual 167, 3) := by decide +kernel
theorem dd_X8_layStrokes_82 : decode cX8_layStrokes 82 = .ok (.aload_n 0, 1) := by decide +kernel
theorem dd_X8_layStrokes_83 : decode cX8_layStrokes 83 = .ok (.iload 4, 2) := by decide +kernel
theorem dd_X8_layStrokes_85 : decode cX8_layStrokes 85 = .ok (.putfield 174, 3) := by decide +kernel
theorem dd_X8_layStrokes_88 : decode cX8_layStrokes 88 = .ok (.aload_n 0, 1) := by decide +kernel
theorem dd_X8_layStrokes_89 : decode cX8_layStrokes 89 = .ok (.aload_n 0, 1) := by decide +kernel
theorem dd_X8_layStrokes_90 : decode cX8_layStrokes 90 = .ok (.iload_n 1, 1) := by decide +kernel
theorem dd_X8_layStrokes_91 : decode cX8_layStrokes 91 = .ok (.iload_n 3, 1) := by decide +kernel
theorem dd_X8_layStrokes_92 : decode cX8_layStrokes 92 = .ok (.invokevirtual 138, 3) := by decide +kernel
theorem dd_X8_layStrokes_95 : decode cX8_layStrokes 95 = .ok (.iload_n 2, 1) := by decide +kernel
theorem dd_X8_layStrokes_96 : decode cX8_layStrokes 96 = .ok (.if_icmp .ne 7, 3) := by decide +kernel
theorem dd_X8_layStrokes_99 : decode cX8_layStrokes 99 = .ok (.iconst 1, 1) := by decide +kernel
theorem dd_X8_layStrokes_100 : decode cX8_layStrokes 100 = .ok (.goto 4, 3) := by decide +kernel
theorem dd_X8_layStrokes_103 : decode cX8_layStrokes 103 = .ok (.iconst (-1), 1) := by decide +kernel
theorem dd_X8_layStrokes_104 : decode cX8_layStrokes 104 = .ok (.putfield 157, 3) := by decide +kernel
theorem dd_X8_layStrokes_107 : decode cX8_layStrokes 107 = .ok (.iinc 4 1, 3) := by decide +kernel
theorem dd_X8_layStrokes_110 : decode cX8_layStrokes 110 = .ok (.goto (-74), 3) := by decide +kernel
theorem dd_X8_layStrokes_113 : decode cX8_layStrokes 113 = .ok (.aload_n 0, 1) := by decide +kernel
theorem dd_X8_layStrokes_114 : decode cX8_layStrokes 114 = .ok (.getfield 157, 3) := by decide +kernel
theorem dd_X8_layStrokes_117 : decode cX8_layStrokes 117 = .ok (.iconst (-1), 1) := by decide +kernel
theorem dd_X8_layStrokes_118 : decode cX8_layStrokes 118 = .ok (.if_icmp .ne 10, 3) := by decide +kernel
theorem dd_X8_layStrokes_121 : decode cX8_layStrokes 121 = .ok (.aload_n 0, 1) := by decide +kernel
theorem dd_X8_layStrokes_122 : decode cX8_layStrokes 122 = .ok (.iload_n 1, 1) := by decide +kernel
theorem dd_X8_layStrokes_123 : decode cX8_layStrokes 123 = .ok (.iload_n 2, 1) := by decide +kernel
theorem dd_X8_layStrokes_124 : decode cX8_layStrokes 124 = .ok (.iload_n 3, 1) := by decide +kernel
theorem dd_X8_layStrokes_125 : decode cX8_layStrokes 125 = .ok (.invokevirtual 177, 3) := by decide +kernel
theorem dd_X8_layStrokes_128 : decode cX8_layStrokes 128 = .ok (.return_, 1) := by decide +kernel
def tb_X8_layStrokes (kd : Nat → Nat) (K : zK) : zTab := [(0, zt_aload 0 1), (1, zt_call kd sp_X8_layHand 1 4), (4, zt_aload 0 5), (5, zt_const (zI 0) 6), (6, zt_call kd sp_X8_laySkin 2 9), (9, zt_aload 0 10), (10, zt_const (zI (-1)) 11), (11, zt_putI kd 8 11 14), (14, zt_aload 0 15), (15, zt_aload 0 16), (16, zt_iload 1 17), (17, zt_iload 3 18), (18, zt_call kd sp_X8_ruleOf 3 21), (21, zt_iload 2 22), (22, zt_icmp (fun x y => ¬ x = y) (fun x y => x = y) 29 25), (25, zt_const (zI 0) 26), (26, zt_goto 30), (29, zt_const (zI (-1)) 30), (30, zt_putI kd 8 10 33), (33, zt_const (zI 0) 34), (34, zt_istore 4 36), (36, zt_iload 4 38), (38, zt_const (zI 16) 40), (40, zt_icmp (fun x y => y ≤ x) (fun x y => ¬ y ≤ x) 113 43), (43, zt_aload 0 44), (44, zt_getI kd 8 10 47), (47, zt_const (zI (-1)) 48), (48, zt_icmp (fun x y => ¬ x = y) (fun x y => x = y) 113 51), (51, zt_aload 0 52), (52, zt_const (zI 0) 53), (53, zt_call kd sp_X8_backTo 2 56), (56, zt_aload 0 57), (57, zt_iload 4 59), (59, zt_call kd sp_X8_mayStroke 2 62), (62, zt_if (fun x => x = 0) (fun x => ¬ x = 0) 107 65), (65, zt_aload 0 66), (66, zt_iload 4 68), (68, zt_iload 1 69), (69, zt_iload 2 70), (70, zt_const (zI 1) 71), (71, zt_icmp (fun x y => ¬ x = y) (fun x y => x = y) 78 74), (74, zt_const (zI 1) 75), (75, zt_goto 79), (78, zt_const (zI 0) 79), (79, zt_call kd sp_X8_goStroke 4 82), (82, zt_aload 0 83), (83, zt_iload 4 85), (85, zt_putI kd 8 11 88), (88, zt_aload 0 89), (89, zt_aload 0 90), (90, zt_iload 1 91), (91, zt_iload 3 92), (92, zt_call kd sp_X8_ruleOf 3 95), (95, zt_iload 2 96), (96, zt_icmp (fun x y => ¬ x = y) (fun x y => x = y) 103 99), (99, zt_const (zI 1) 100), (100, zt_goto 104), (103, zt_const (zI (-1)) 104), (104, zt_putI kd 8 10 107), (107, zt_iinc 4 1 110), (110, zt_goto 36), (113, zt_aload 0 114), (114, zt_getI kd 8 10 117), (117, zt_const (zI (-1)) 118), (118, zt_icmp (fun x y => ¬ x = y) (fun x y => x = y) 128 121), (121, zt_aload 0 122), (122, zt_iload 1 123), (123, zt_iload 2 124), (124, zt_iload 3 125), (125, zt_call kd sp_X8_tryTwo 4 128), (128, zt_vret K)]
set_option maxRecDepth 20000 in
theorem tk_X8_layStrokes (d : Nat) (h_X8_layHand : zMS 1 yX8_layHand cX8_layHand 2 none sp_X8_layHand) (h_X8_laySkin : zMS 1 yX8_laySkin cX8_laySkin 3 none sp_X8_laySkin) (h_X8_ruleOf : zMS 7 yX8_ruleOf cX8_ruleOf 3 (some .int) sp_X8_ruleOf) (h_X8_backTo : zMS 1 yX8_backTo cX8_backTo 3 none sp_X8_backTo) (h_X8_mayStroke : zMS 4 yX8_mayStroke cX8_mayStroke 2 (some .boolean) sp_X8_mayStroke) (h_X8_goStroke : zMS 3 yX8_goStroke cX8_goStroke 5 none sp_X8_goStroke) (h_X8_tryTwo : zMS 8 yX8_tryTwo cX8_tryTwo 6 none sp_X8_tryTwo) : zTrue RX8 cX8_layStrokes 5 none (d + 9) (fun kd K => tb_X8_layStrokes kd K) := by
  intro p l e R s m args below meth c D cy A ad bl Qm K C0 hr hlocks hQ
  obtain ⟨hx, hb, hml, hown, hts, hK, hD, hA0, hN, hE, ⟨hR1, hR2⟩, hc1, hc2⟩ := id C0
  unfold tb_X8_layStrokes
  refine List.forall_mem_cons.mpr ⟨ok_aload_n hx hb rfl dd_X8_layStrokes_0, ?_⟩
  refine List.forall_mem_cons.mpr ⟨ok_callV (n := 0) zc_X8 rv_X8_layHand C0 (h_X8_layHand (d + 8) (by omega)) (by decide) wd_1000 wd_997 wd_999 wd_67 wd_107 ⟨rfl, by decide +kernel, by decide +kernel, by decide +kernel⟩ dd_X8_layStrokes_1, ?_⟩
  refine List.forall_mem_cons.mpr ⟨ok_aload_n hx hb rfl dd_X8_layStrokes_4, ?_⟩
  refine List.forall_mem_cons.mpr ⟨ok_iconst hx hb dd_X8_layStrokes_5 (by decide), ?_⟩
  refine List.forall_mem_cons.mpr ⟨ok_callV (n := 1) zc_X8 rv_X8_laySkin C0 (h_X8_laySkin (d + 8) (by omega)) (by decide) wd_1062 wd_1059 wd_1061 wd_76 wd_107 ⟨rfl, by decide +kernel, by decide +kernel, by decide +kernel⟩ dd_X8_layStrokes_6, ?_⟩
  refine List.forall_mem_cons.mpr ⟨ok_aload_n hx hb rfl dd_X8_layStrokes_9, ?_⟩
  refine List.forall_mem_cons.mpr ⟨ok_iconst hx hb dd_X8_layStrokes_10 (by decide), ?_⟩
  refine List.forall_mem_cons.mpr ⟨ok_putI (j := 11) hx hb hts zi_X8 tyX8 tyX8_ok nmX8 hown hK hD zc_X8 (by decide) rfl rfl (by decide +kernel) (fun t fl h => by cases h; rfl) (hts _ wd_851) dd_X8_layStrokes_11, ?_⟩
  refine List.forall_mem_cons.mpr ⟨ok_aload_n hx hb rfl dd_X8_layStrokes_14, ?_⟩
  refine List.forall_mem_cons.mpr ⟨ok_aload_n hx hb rfl dd_X8_layStrokes_15, ?_⟩
  refine List.forall_mem_cons.mpr ⟨ok_iload_n hx hb rfl dd_X8_layStrokes_16, ?_⟩
  refine List.forall_mem_cons.mpr ⟨ok_iload_n hx hb rfl dd_X8_layStrokes_17, ?_⟩
  refine List.forall_mem_cons.mpr ⟨ok_callV (n := 2) zc_X8 rv_X8_ruleOf C0 (h_X8_ruleOf (d + 8) (by omega)) (by decide) wd_1024 wd_1021 wd_1023 wd_72 wd_107 ⟨rfl, by decide +kernel, by decide +kernel, by decide +kernel⟩ dd_X8_layStrokes_18, ?_⟩
  refine List.forall_mem_cons.mpr ⟨ok_iload_n hx hb rfl dd_X8_layStrokes_21, ?_⟩
  refine List.forall_mem_cons.mpr ⟨ok_icmp_ne hx hb dd_X8_layStrokes_22 (by decide), ?_⟩
  refine List.forall_mem_cons.mpr ⟨ok_iconst hx hb dd_X8_layStrokes_25 (by decide), ?_⟩
  refine List.forall_mem_cons.mpr ⟨ok_goto hx hb dd_X8_layStrokes_26 (by decide), ?_⟩
  refine List.forall_mem_cons.mpr ⟨ok_iconst hx hb dd_X8_layStrokes_29 (by decide), ?_⟩
  refine List.forall_mem_cons.mpr ⟨ok_putI (j := 10) hx hb hts zi_X8 tyX8 tyX8_ok nmX8 hown hK hD zc_X8 (by decide) rfl rfl (by decide +kernel) (fun t fl h => by cases h; rfl) (hts _ wd_850) dd_X8_layStrokes_30, ?_⟩
  refine List.forall_mem_cons.mpr ⟨ok_iconst hx hb dd_X8_layStrokes_33 (by decide), ?_⟩
  refine List.forall_mem_cons.mpr ⟨ok_istore hx hb dd_X8_layStrokes_34, ?_⟩
  refine List.forall_mem_cons.mpr ⟨ok_iload hx hb dd_X8_layStrokes_36, ?_⟩
  refine List.forall_mem_cons.mpr ⟨ok_bipush hx hb dd_X8_layStrokes_38 (by decide), ?_⟩
  refine List.forall_mem_cons.mpr ⟨ok_icmp_ge hx hb dd_X8_layStrokes_40 (by decide), ?_⟩
  refine List.forall_mem_cons.mpr ⟨ok_aload_n hx hb rfl dd_X8_layStrokes_43, ?_⟩
  refine List.forall_mem_cons.mpr ⟨ok_getI (j := 10) hx hb hts zi_X8 hown hK zc_X8 (by decide) rfl (fun t fl h => by cases h; rfl) (hts _ wd_850) dd_X8_layStrokes_44, ?_⟩
  refine List.forall_mem_cons.mpr ⟨ok_iconst hx hb dd_X8_layStrokes_47 (by decide), ?_⟩
  refine List.forall_mem_cons.mpr ⟨ok_icmp_ne hx hb dd_X8_layStrokes_48 (by decide), ?_⟩
  refine List.forall_mem_cons.mpr ⟨ok_aload_n hx hb rfl dd_X8_layStrokes_51, ?_⟩
  refine List.forall_mem_cons.mpr ⟨ok_iconst hx hb dd_X8_layStrokes_52 (by decide), ?_⟩
  refine List.forall_mem_cons.mpr ⟨ok_callV (n := 1) zc_X8 rv_X8_backTo C0 (h_X8_backTo (d + 8) (by omega)) (by decide) wd_1066 wd_1063 wd_1065 wd_77 wd_107 ⟨rfl, by decide +kernel, by decide +kernel, by decide +kernel⟩ dd_X8_layStrokes_53, ?_⟩
  refine List.forall_mem_cons.mpr ⟨ok_aload_n hx hb rfl dd_X8_layStrokes_56, ?_⟩
  refine List.forall_mem_cons.mpr ⟨ok_iload hx hb dd_X8_layStrokes_57, ?_⟩
  refine List.forall_mem_cons.mpr ⟨ok_callV (n := 1) zc_X8 rv_X8_mayStroke C0 (h_X8_mayStroke (d + 8) (by omega)) (by decide) wd_1070 wd_1067 wd_1069 wd_78 wd_107 ⟨rfl, by decide +kernel, by decide +kernel, by decide +kernel⟩ dd_X8_layStrokes_59, ?_⟩
  refine List.forall_mem_cons.mpr ⟨ok_if_eq hx hb dd_X8_layStrokes_62 (by decide), ?_⟩
  refine List.forall_mem_cons.mpr ⟨ok_aload_n hx hb rfl dd_X8_layStrokes_65, ?_⟩
  refine List.forall_mem_cons.mpr ⟨ok_iload hx hb dd_X8_layStrokes_66, ?_⟩
  refine List.forall_mem_cons.mpr ⟨ok_iload_n hx hb rfl dd_X8_layStrokes_68, ?_⟩
  refine List.forall_mem_cons.mpr ⟨ok_iload_n hx hb rfl dd_X8_layStrokes_69, ?_⟩
  refine List.forall_mem_cons.mpr ⟨ok_iconst hx hb dd_X8_layStrokes_70 (by decide), ?_⟩
  refine List.forall_mem_cons.mpr ⟨ok_icmp_ne hx hb dd_X8_layStrokes_71 (by decide), ?_⟩
  refine List.forall_mem_cons.mpr ⟨ok_iconst hx hb dd_X8_layStrokes_74 (by decide), ?_⟩
  refine List.forall_mem_cons.mpr ⟨ok_goto hx hb dd_X8_layStrokes_75 (by decide), ?_⟩
  refine List.forall_mem_cons.mpr ⟨ok_iconst hx hb dd_X8_layStrokes_78 (by decide), ?_⟩
  refine List.forall_mem_cons.mpr ⟨ok_callV (n := 3) zc_X8 rv_X8_goStroke C0 (h_X8_goStroke (d + 8) (by omega)) (by decide) wd_1077 wd_1074 wd_1076 wd_79 wd_107 ⟨rfl, by decide +kernel, by decide +kernel, by decide +kernel⟩ dd_X8_layStrokes_79, ?_⟩
  refine List.forall_mem_cons.mpr ⟨ok_aload_n hx hb rfl dd_X8_layStrokes_82, ?_⟩
  refine List.forall_mem_cons.mpr ⟨ok_iload hx hb dd_X8_layStrokes_83, ?_⟩
  refine List.forall_mem_cons.mpr ⟨ok_putI (j := 11) hx hb hts zi_X8 tyX8 tyX8_ok nmX8 hown hK hD zc_X8 (by decide) rfl rfl (by decide +kernel) (fun t fl h => by cases h; rfl) (hts _ wd_851) dd_X8_layStrokes_85, ?_⟩
  refine List.forall_mem_cons.mpr ⟨ok_aload_n hx hb rfl dd_X8_layStrokes_88, ?_⟩
  refine List.forall_mem_cons.mpr ⟨ok_aload_n hx hb rfl dd_X8_layStrokes_89, ?_⟩
  refine List.forall_mem_cons.mpr ⟨ok_iload_n hx hb rfl dd_X8_layStrokes_90, ?_⟩
  refine List.forall_mem_cons.mpr ⟨ok_iload_n hx hb rfl dd_X8_layStrokes_91, ?_⟩
  refine List.forall_mem_cons.mpr ⟨ok_callV (n := 2) zc_X8 rv_X8_ruleOf C0 (h_X8_ruleOf (d + 8) (by omega)) (by decide) wd_1024 wd_1021 wd_1023 wd_72 wd_107 ⟨rfl, by decide +kernel, by decide +kernel, by decide +kernel⟩ dd_X8_layStrokes_92, ?_⟩
  refine List.forall_mem_cons.mpr ⟨ok_iload_n hx hb rfl dd_X8_layStrokes_95, ?_⟩
  refine List.forall_mem_cons.mpr ⟨ok_icmp_ne hx hb dd_X8_layStrokes_96 (by decide), ?_⟩
  refine List.forall_mem_cons.mpr ⟨ok_iconst hx hb dd_X8_layStrokes_99 (by decide), ?_⟩
  refine List.forall_mem_cons.mpr ⟨ok_goto hx hb dd_X8_layStrokes_100 (by decide), ?_⟩
  refine List.forall_mem_cons.mpr ⟨ok_iconst hx hb dd_X8_layStrokes_103 (by decide), ?_⟩
  refine List.forall_mem_cons.mpr ⟨ok_putI (j := 10) hx hb hts zi_X8 tyX8 tyX8_ok nmX8 hown hK hD zc_X8 (by decide) rfl rfl (by decide +kernel) (fun t fl h => by cases h; rfl) (hts _ wd_850) dd_X8_layStrokes_104, ?_⟩
  refine List.forall_mem_cons.mpr ⟨ok_iinc hx hb dd_X8_layStrokes_107 (by decide), ?_⟩
  refine List.forall_mem_cons.mpr ⟨ok_goto hx hb dd_X8_layStrokes_110 (by decide), ?_⟩
  refine List.forall_mem_cons.mpr ⟨ok_aload_n hx hb rfl dd_X8_layStrokes_113, ?_⟩
  refine List.forall_mem_cons.mpr ⟨ok_getI (j := 10) hx hb hts zi_X8 hown hK zc_X8 (by decide) rfl (fun t fl h => by cases h; rfl) (hts _ wd_850) dd_X8_layStrokes_114, ?_⟩
  refine List.forall_mem_cons.mpr ⟨ok_iconst hx hb dd_X8_layStrokes_117 (by decide), ?_⟩
  refine List.forall_mem_cons.mpr ⟨ok_icmp_ne hx hb dd_X8_layStrokes_118 (by decide), ?_⟩
  refine List.forall_mem_cons.mpr ⟨ok_aload_n hx hb rfl dd_X8_layStrokes_121, ?_⟩
  refine List.forall_mem_cons.mpr ⟨ok_iload_n hx hb rfl dd_X8_layStrokes_122, ?_⟩
  refine List.forall_mem_cons.mpr ⟨ok_iload_n hx hb rfl dd_X8_layStrokes_123, ?_⟩
  refine List.forall_mem_cons.mpr ⟨ok_iload_n hx hb rfl dd_X8_layStrokes_124, ?_⟩
  refine List.forall_mem_cons.mpr ⟨ok_callV (n := 3) zc_X8 rv_X8_tryTwo C0 (h_X8_tryTwo (d + 8) (by omega)) (by decide) wd_1081 wd_1078 wd_1080 wd_80 wd_107 ⟨rfl, by decide +kernel, by decide +kernel, by decide +kernel⟩ dd_X8_layStrokes_125, ?_⟩
  refine List.forall_mem_cons.mpr ⟨ok_vret hx hb hr hlocks hQ dd_X8_layStrokes_128, ?_⟩
  exact fun _ h => absurd h List.not_mem_nil
set_option maxRecDepth 100000 in
theorem vc_X8_layStrokes_0 {kd : Nat → Nat} {K : zK} {X : zX} (hX : ∀ (n pc : Nat) (ls : zLS) (st : List zV) (M : zM), zrun (tb_X8_layStrokes kd K) [(36, [])] n X pc ls st M → X pc ls st M) {g : Int32} {z : Int32} {y : Int32} {M : zM} (hk0 : kd 9 = 8) (h : ∀ f1 : Nat → Int32, (∀ j9, j9 < 127 → f1 j9 = M.1 9 1 j9) → ∀ M1 : zM, (M1 = zmw M 9 5 f1) → (0 ≤ (0 : Int32).toInt ∧ (0 : Int32).toInt < 4) ∧ ∀ f2 : Nat → Int32, (∀ j9, j9 < 127 → f2 (127 * (0 : Int32).toInt.toNat + j9) = M1.1 9 5 j9) → (∀ j9, (j9 < 127 * (0 : Int32).toInt.toNat ∨ 127 * (0 : Int32).toInt.toNat + 127 ≤ j9) → f2 j9 = M1.1 9 6 j9) → ∀ M2 : zM, (M2 = zmw M1 9 6 f2) → ∀ M3 : zM, (M3 = zmw M2 9 0 (upd (M2.1 9 0) 11 (-1 : Int32))) → ∃ a4 : Sk, (RpF (M3.1 9 5) a4) ∧ (0 ≤ y.toInt ∧ y.toInt < 1000000) ∧ ∀ v4 : Int32, (v4.toInt = sk_law a4 g.toInt y.toInt) → ∀ f4 : Nat → Int32, ((f4 7).toInt = sk_N a4 g.toInt 1 y.toInt ∧ (f4 8).toInt = sk_N a4 g.toInt 0 y.toInt ∧ ∀ j9, j9 ≠ 7 → j9 ≠ 8 → f4 j9 = M3.1 9 0 j9) → ∀ M4 : zM, (M4 = zmw M3 9 0 f4) → ((¬ v4 = z) → ∀ M5 : zM, (M5 = zmw M4 9 0 (upd (M4.1 9 0) 10 (-1 : Int32))) → X 36 [some (zR 9 0), some (zI (g)), some (zI (z)), some (zI (y)), some (zI ((0 : Int32)))] [] M5) ∧ ((v4 = z) → ∀ M6 : zM, (M6 = zmw M4 9 0 (upd (M4.1 9 0) 10 (0 : Int32))) → X 36 [some (zR 9 0), some (zI (g)), some (zI (z)), some (zI (y)), some (zI ((0 : Int32)))] [] M6)) : X 0 [some (zR 9 0), some (zI (g)), some (zI (z)), some (zI (y)), none] [] M := hX 22 0 _ [] M (show (kd 9 = 8) ∧ ∀ f1 : Nat → Int32, (∀ j9, j9 < 127 → f1 j9 = M.1 9 1 j9) → ∀ M1 : zM, (M1 = zmw M 9 5 f1) → (kd 9 = 8) ∧ (0 ≤ (0 : Int32).toInt ∧ (0 : Int32).toInt < 4) ∧ ∀ f2 : Nat → Int32, (∀ j9, j9 < 127 → f2 (127 * (0 : Int32).toInt.toNat + j9) = M1.1 9 5 j9) → (∀ j9, (j9 < 127 * (0 : Int32).toInt.toNat ∨ 127 * (0 : Int32).toInt.toNat + 127 ≤ j9) → f2 j9 = M1.1 9 6 j9) → ∀ M2 : zM, (M2 = zmw M1 9 6 f2) → (kd 9 = 8) ∧ ∀ M3 : zM, (M3 = zmw M2 9 0 (upd (M2.1 9 0) 11 (-1 : Int32))) → (kd 9 = 8) ∧ ∃ a4 : Sk, (RpF (M3.1 9 5) a4) ∧ (0 ≤ y.toInt ∧ y.toInt < 1000000) ∧ ∀ v4 : Int32, (v4.toInt = sk_law a4 g.toInt y.toInt) → ∀ f4 : Nat → Int32, ((f4 7).toInt = sk_N a4 g.toInt 1 y.toInt ∧ (f4 8).toInt = sk_N a4 g.toInt 0 y.toInt ∧ ∀ j9, j9 ≠ 7 → j9 ≠ 8 → f4 j9 = M3.1 9 0 j9) → ∀ M4 : zM, (M4 = zmw M3 9 0 f4) → ((¬ v4 = z) → (kd 9 = 8) ∧ ∀ M5 : zM, (M5 = zmw M4 9 0 (upd (M4.1 9 0) 10 (-1 : Int32))) → X 36 [some (zR 9 0), some (zI (g)), some (zI (z)), some (zI (y)), some (zI ((0 : Int32)))] [] M5) ∧ ((v4 = z) → (kd 9 = 8) ∧ ∀ M6 : zM, (M6 = zmw M4 9 0 (upd (M4.1 9 0) 10 (0 : Int32))) → X 36 [some (zR 9 0), some (zI (g)), some (zI (z)), some (zI (y)), some (zI ((0 : Int32)))] [] M6) from ⟨hk0, fun f1 => have h := h f1; fun q => have h := h q; fun M1 => have h := h M1; fun q => have h := h q; ⟨hk0, ⟨h.1, have h := h.2; fun f2 => have h := h f2; fun q => have h := h q; fun q => have h := h q; fun M2 => have h := h M2; fun q => have h := h q; ⟨hk0, fun M3 => have h := h M3; fun q => have h := h q; ⟨hk0, h.elim (fun a4 h => ⟨a4, ⟨h.1, have h := h.2; ⟨h.1, have h := h.2; fun v4 => have h := h v4; fun q => have h := h q; fun f4 => have h := h f4; fun q => have h := h q; fun M4 => have h := h M4; fun q => have h := h q; ⟨fun q => have h := h.1 q; ⟨hk0, fun M5 => have h := h M5; fun q => have h := h q; h⟩, fun q => have h := h.2 q; ⟨hk0, fun M6 => have h := h M6; fun q => have h := h q; h⟩⟩⟩⟩⟩)⟩⟩⟩⟩⟩)
set_option maxRecDepth 100000 in
theorem vc_X8_layStrokes_36 {kd : Nat → Nat} {K : zK} {X : zX} (hX : ∀ (n pc : Nat) (ls : zLS) (st : List zV) (M : zM), zrun (tb_X8_layStrokes kd K) [(36, [])] n X pc ls st M → X pc ls st M) {g : Int32} {z : Int32} {y : Int32} {w : Int32} {M : zM} (hk0 : kd 9 = 8) (h : (((16 : Int32) ≤ w) → ((¬ (M.1 9 0 10) = (-1 : Int32)) → K none M) ∧ (((M.1 9 0 10) = (-1 : Int32)) → ∃ a1 : Sk, (RpF (M.1 9 6) a1) ∧ ((M.1 9 0 10).toInt = -1) ∧ (isT g.toInt ∧ inn z.toInt 1 2 ∧ 0 ≤ y.toInt ∧ y.toInt < 1000000) ∧ ∀ M1 : zM, (scr M M1) → (str2 a1 g.toInt y.toInt z.toInt (M1.1 9 0 10).toInt (M1.1 9 0 11).toInt) → K none M1)) ∧ ((¬ (16 : Int32) ≤ w) → ((¬ (M.1 9 0 10) = (-1 : Int32)) → ((¬ (M.1 9 0 10) = (-1 : Int32)) → K none M) ∧ (((M.1 9 0 10) = (-1 : Int32)) → ∃ a2 : Sk, (RpF (M.1 9 6) a2) ∧ ((M.1 9 0 10).toInt = -1) ∧ (isT g.toInt ∧ inn z.toInt 1 2 ∧ 0 ≤ y.toInt ∧ y.toInt < 1000000) ∧ ∀ M2 : zM, (scr M M2) → (str2 a2 g.toInt y.toInt z.toInt (M2.1 9 0 10).toInt (M2.1 9 0 11).toInt) → K none M2)) ∧ (((M.1 9 0 10) = (-1 : Int32)) → (0 ≤ (0 : Int32).toInt ∧ (0 : Int32).toInt < 4) ∧ ∀ f3 : Nat → Int32, (∀ j9, j9 < 127 → f3 j9 = M.1 9 6 (127 * (0 : Int32).toInt.toNat + j9)) → ∀ M3 : zM, (M3 = zmw M 9 5 f3) → ∃ a4 : Sk, (RpF (M3.1 9 5) a4) ∧ (0 ≤ w.toInt ∧ w.toInt ≤ 20) ∧ ∀ v4 : Int32, (v4 = zp (tr_may a4 w.toInt = true)) → ((v4 = 0) → X 36 [some (zR 9 0), some (zI (g)), some (zI (z)), some (zI (y)), some (zI (w + 1))] [] M3) ∧ ((¬ v4 = 0) → ((¬ z = (1 : Int32)) → ∃ a5 : Sk, (RpF (M3.1 9 5) a5) ∧ (0 ≤ w.toInt ∧ w.toInt ≤ 20) ∧ (tr_may a5 w.toInt = true) ∧ (0 ≤ g.toInt ∧ g.toInt ≤ 4) ∧ ((0 : Int32).toInt = 0 ∨ (0 : Int32).toInt = 1) ∧ ∀ f5 : Nat → Int32, (RpF f5 (tr_do a5 w.toInt g.toInt (0 : Int32).toInt)) → ∀ M5 : zM, (M5 = zmw M3 9 5 f5) → ∀ M6 : zM, (M6 = zmw M5 9 0 (upd (M5.1 9 0) 11 w)) → ∃ a7 : Sk, (RpF (M6.1 9 5) a7) ∧ (0 ≤ y.toInt ∧ y.toInt < 1000000) ∧ ∀ v7 : Int32, (v7.toInt = sk_law a7 g.toInt y.toInt) → ∀ f7 : Nat → Int32, ((f7 7).toInt = sk_N a7 g.toInt 1 y.toInt ∧ (f7 8).toInt = sk_N a7 g.toInt 0 y.toInt ∧ ∀ j9, j9 ≠ 7 → j9 ≠ 8 → f7 j9 = M6.1 9 0 j9) → ∀ M7 : zM, (M7 = zmw M6 9 0 f7) → ((¬ v7 = z) → ∀ M8 : zM, (M8 = zmw M7 9 0 (upd (M7.1 9 0) 10 (-1 : Int32))) → X 36 [some (zR 9 0), some (zI (g)), some (zI (z)), some (zI (y)), some (zI (w + 1))] [] M8) ∧ ((v7 = z) → ∀ M9 : zM, (M9 = zmw M7 9 0 (upd (M7.1 9 0) 10 (1 : Int32))) → X 36 [some (zR 9 0), some (zI (g)), some (zI (z)), some (zI (y)), some (zI (w + 1))] [] M9)) ∧ ((z = (1 : Int32)) → ∃ a10 : Sk, (RpF (M3.1 9 5) a10) ∧ (0 ≤ w.toInt ∧ w.toInt ≤ 20) ∧ (tr_may a10 w.toInt = true) ∧ (0 ≤ g.toInt ∧ g.toInt ≤ 4) ∧ ((1 : Int32).toInt = 0 ∨ (1 : Int32).toInt = 1) ∧ ∀ f10 : Nat → Int32, (RpF f10 (tr_do a10 w.toInt g.toInt (1 : Int32).toInt)) → ∀ M10 : zM, (M10 = zmw M3 9 5 f10) → ∀ M11 : zM, (M11 = zmw M10 9 0 (upd (M10.1 9 0) 11 w)) → ∃ a12 : Sk, (RpF (M11.1 9 5) a12) ∧ (0 ≤ y.toInt ∧ y.toInt < 1000000) ∧ ∀ v12 : Int32, (v12.toInt = sk_law a12 g.toInt y.toInt) → ∀ f12 : Nat → Int32, ((f12 7).toInt = sk_N a12 g.toInt 1 y.toInt ∧ (f12 8).toInt = sk_N a12 g.toInt 0 y.toInt ∧ ∀ j9, j9 ≠ 7 → j9 ≠ 8 → f12 j9 = M11.1 9 0 j9) → ∀ M12 : zM, (M12 = zmw M11 9 0 f12) → ((¬ v12 = z) → ∀ M13 : zM, (M13 = zmw M12 9 0 (upd (M12.1 9 0) 10 (-1 : Int32))) → X 36 [some (zR 9 0), some (zI (g)), some (zI (z)), some (zI (y)), some (zI (w + 1))] [] M13) ∧ ((v12 = z) → ∀ M14 : zM, (M14 = zmw M12 9 0 (upd (M12.1 9 0) 10 (1 : Int32))) → X 36 [some (zR 9 0), some (zI (g)), some (zI (z)), some (zI (y)), some (zI (w + 1))] [] M14)))))) : X 36 [some (zR 9 0), some (zI (g)), some (zI (z)), some (zI (y)), some (zI (w))] [] M := hX 40 36 _ [] M (show (((16 : Int32) ≤ w) → (kd 9 = 8) ∧ ((¬ (M.1 9 0 10) = (-1 : Int32)) → K none M) ∧ (((M.1 9 0 10) = (-1 : Int32)) → (kd 9 = 8) ∧ ∃ a1 : Sk, (RpF (M.1 9 6) a1) ∧ ((M.1 9 0 10).toInt = -1) ∧ (isT g.toInt ∧ inn z.toInt 1 2 ∧ 0 ≤ y.toInt ∧ y.toInt < 1000000) ∧ ∀ M1 : zM, (scr M M1) → (str2 a1 g.toInt y.toInt z.toInt (M1.1 9 0 10).toInt (M1.1 9 0 11).toInt) → K none M1)) ∧ ((¬ (16 : Int32) ≤ w) → (kd 9 = 8) ∧ ((¬ (M.1 9 0 10) = (-1 : Int32)) → (kd 9 = 8) ∧ ((¬ (M.1 9 0 10) = (-1 : Int32)) → K none M) ∧ (((M.1 9 0 10) = (-1 : Int32)) → (kd 9 = 8) ∧ ∃ a2 : Sk, (RpF (M.1 9 6) a2) ∧ ((M.1 9 0 10).toInt = -1) ∧ (isT g.toInt ∧ inn z.toInt 1 2 ∧ 0 ≤ y.toInt ∧ y.toInt < 1000000) ∧ ∀ M2 : zM, (scr M M2) → (str2 a2 g.toInt y.toInt z.toInt (M2.1 9 0 10).toInt (M2.1 9 0 11).toInt) → K none M2)) ∧ (((M.1 9 0 10) = (-1 : Int32)) → (kd 9 = 8) ∧ (0 ≤ (0 : Int32).toInt ∧ (0 : Int32).toInt < 4) ∧ ∀ f3 : Nat → Int32, (∀ j9, j9 < 127 → f3 j9 = M.1 9 6 (127 * (0 : Int32).toInt.toNat + j9)) → ∀ M3 : zM, (M3 = zmw M 9 5 f3) → (kd 9 = 8) ∧ ∃ a4 : Sk, (RpF (M3.1 9 5) a4) ∧ (0 ≤ w.toInt ∧ w.toInt ≤ 20) ∧ ∀ v4 : Int32, (v4 = zp (tr_may a4 w.toInt = true)) → ((v4 = 0) → X 36 [some (zR 9 0), some (zI (g)), some (zI (z)), some (zI (y)), some (zI (w + 1))] [] M3) ∧ ((¬ v4 = 0) → ((¬ z = (1 : Int32)) → (kd 9 = 8) ∧ ∃ a5 : Sk, (RpF (M3.1 9 5) a5) ∧ (0 ≤ w.toInt ∧ w.toInt ≤ 20) ∧ (tr_may a5 w.toInt = true) ∧ (0 ≤ g.toInt ∧ g.toInt ≤ 4) ∧ ((0 : Int32).toInt = 0 ∨ (0 : Int32).toInt = 1) ∧ ∀ f5 : Nat → Int32, (RpF f5 (tr_do a5 w.toInt g.toInt (0 : Int32).toInt)) → ∀ M5 : zM, (M5 = zmw M3 9 5 f5) → (kd 9 = 8) ∧ ∀ M6 : zM, (M6 = zmw M5 9 0 (upd (M5.1 9 0) 11 w)) → (kd 9 = 8) ∧ ∃ a7 : Sk, (RpF (M6.1 9 5) a7) ∧ (0 ≤ y.toInt ∧ y.toInt < 1000000) ∧ ∀ v7 : Int32, (v7.toInt = sk_law a7 g.toInt y.toInt) → ∀ f7 : Nat → Int32, ((f7 7).toInt = sk_N a7 g.toInt 1 y.toInt ∧ (f7 8).toInt = sk_N a7 g.toInt 0 y.toInt ∧ ∀ j9, j9 ≠ 7 → j9 ≠ 8 → f7 j9 = M6.1 9 0 j9) → ∀ M7 : zM, (M7 = zmw M6 9 0 f7) → ((¬ v7 = z) → (kd 9 = 8) ∧ ∀ M8 : zM, (M8 = zmw M7 9 0 (upd (M7.1 9 0) 10 (-1 : Int32))) → X 36 [some (zR 9 0), some (zI (g)), some (zI (z)), some (zI (y)), some (zI (w + 1))] [] M8) ∧ ((v7 = z) → (kd 9 = 8) ∧ ∀ M9 : zM, (M9 = zmw M7 9 0 (upd (M7.1 9 0) 10 (1 : Int32))) → X 36 [some (zR 9 0), some (zI (g)), some (zI (z)), some (zI (y)), some (zI (w + 1))] [] M9)) ∧ ((z = (1 : Int32)) → (kd 9 = 8) ∧ ∃ a10 : Sk, (RpF (M3.1 9 5) a10) ∧ (0 ≤ w.toInt ∧ w.toInt ≤ 20) ∧ (tr_may a10 w.toInt = true) ∧ (0 ≤ g.toInt ∧ g.toInt ≤ 4) ∧ ((1 : Int32).toInt = 0 ∨ (1 : Int32).toInt = 1) ∧ ∀ f10 : Nat → Int32, (RpF f10 (tr_do a10 w.toInt g.toInt (1 : Int32).toInt)) → ∀ M10 : zM, (M10 = zmw M3 9 5 f10) → (kd 9 = 8) ∧ ∀ M11 : zM, (M11 = zmw M10 9 0 (upd (M10.1 9 0) 11 w)) → (kd 9 = 8) ∧ ∃ a12 : Sk, (RpF (M11.1 9 5) a12) ∧ (0 ≤ y.toInt ∧ y.toInt < 1000000) ∧ ∀ v12 : Int32, (v12.toInt = sk_law a12 g.toInt y.toInt) → ∀ f12 : Nat → Int32, ((f12 7).toInt = sk_N a12 g.toInt 1 y.toInt ∧ (f12 8).toInt = sk_N a12 g.toInt 0 y.toInt ∧ ∀ j9, j9 ≠ 7 → j9 ≠ 8 → f12 j9 = M11.1 9 0 j9) → ∀ M12 : zM, (M12 = zmw M11 9 0 f12) → ((¬ v12 = z) → (kd 9 = 8) ∧ ∀ M13 : zM, (M13 = zmw M12 9 0 (upd (M12.1 9 0) 10 (-1 : Int32))) → X 36 [some (zR 9 0), some (zI (g)), some (zI (z)), some (zI (y)), some (zI (w + 1))] [] M13) ∧ ((v12 = z) → (kd 9 = 8) ∧ ∀ M14 : zM, (M14 = zmw M12 9 0 (upd (M12.1 9 0) 10 (1 : Int32))) → X 36 [some (zR 9 0), some (zI (g)), some (zI (z)), some (zI (y)), some (zI (w + 1))] [] M14))))) from ⟨fun q => have h := h.1 q; ⟨hk0, ⟨fun q => have h := h.1 q; h, fun q => have h := h.2 q; ⟨hk0, h.elim (fun a1 h => ⟨a1, ⟨h.1, have h := h.2; ⟨h.1, have h := h.2; ⟨h.1, have h := h.2; fun M1 => have h := h M1; fun q => have h := h q; fun q => have h := h q; h⟩⟩⟩⟩)⟩⟩⟩, fun q => have h := h.2 q; ⟨hk0, ⟨fun q => have h := h.1 q; ⟨hk0, ⟨fun q => have h := h.1 q; h, fun q => have h := h.2 q; ⟨hk0, h.elim (fun a2 h => ⟨a2, ⟨h.1, have h := h.2; ⟨h.1, have h := h.2; ⟨h.1, have h := h.2; fun M2 => have h := h M2; fun q => have h := h q; fun q => have h := h q; h⟩⟩⟩⟩)⟩⟩⟩, fun q => have h := h.2 q; ⟨hk0, ⟨h.1, have h := h.2; fun f3 => have h := h f3; fun q => have h := h q; fun M3 => have h := h M3; fun q => have h := h q; ⟨hk0, h.elim (fun a4 h => ⟨a4, ⟨h.1, have h := h.2; ⟨h.1, have h := h.2; fun v4 => have h := h v4; fun q => have h := h q; ⟨fun q => have h := h.1 q; h, fun q => have h := h.2 q; ⟨fun q => have h := h.1 q; ⟨hk0, h.elim (fun a5 h => ⟨a5, ⟨h.1, have h := h.2; ⟨h.1, have h := h.2; ⟨h.1, have h := h.2; ⟨h.1, have h := h.2; ⟨h.1, have h := h.2; fun f5 => have h := h f5; fun q => have h := h q; fun M5 => have h := h M5; fun q => have h := h q; ⟨hk0, fun M6 => have h := h M6; fun q => have h := h q; ⟨hk0, h.elim (fun a7 h => ⟨a7, ⟨h.1, have h := h.2; ⟨h.1, have h := h.2; fun v7 => have h := h v7; fun q => have h := h q; fun f7 => have h := h f7; fun q => have h := h q; fun M7 => have h := h M7; fun q => have h := h q; ⟨fun q => have h := h.1 q; ⟨hk0, fun M8 => have h := h M8; fun q => have h := h q; h⟩, fun q => have h := h.2 q; ⟨hk0, fun M9 => have h := h M9; fun q => have h := h q; h⟩⟩⟩⟩⟩)⟩⟩⟩⟩⟩⟩⟩⟩)⟩, fun q => have h := h.2 q; ⟨hk0, h.elim (fun a10 h => ⟨a10, ⟨h.1, have h := h.2; ⟨h.1, have h := h.2; ⟨h.1, have h := h.2; ⟨h.1, have h := h.2; ⟨h.1, have h := h.2; fun f10 => have h := h f10; fun q => have h := h q; fun M10 => have h := h M10; fun q => have h := h q; ⟨hk0, fun M11 => have h := h M11; fun q => have h := h q; ⟨hk0, h.elim (fun a12 h => ⟨a12, ⟨h.1, have h := h.2; ⟨h.1, have h := h.2; fun v12 => have h := h v12; fun q => have h := h q; fun f12 => have h := h f12; fun q => have h := h q; fun M12 => have h := h M12; fun q => have h := h q; ⟨fun q => have h := h.1 q; ⟨hk0, fun M13 => have h := h M13; fun q => have h := h q; h⟩, fun q => have h := h.2 q; ⟨hk0, fun M14 => have h := h M14; fun q => have h := h q; h⟩⟩⟩⟩⟩)⟩⟩⟩⟩⟩⟩⟩⟩)⟩⟩⟩⟩⟩⟩)⟩⟩⟩⟩⟩⟩)
def sp_X8_strokes : zSpec := fun kd as M K => match as with
  | [.inr (.inr (.inl (9, 0))), .inl g, .inl z, .inl y, .inl w] => (kd 9 = 8) ∧ ∃ s : St, (RpM M s) ∧ ∀ v : Int32, (er_strokes s g.toInt z.toInt y.toInt w.toInt v.toInt) → ∀ M' : zM, (RpM M' (es_strokes s g.toInt z.toInt y.toInt w.toInt)) → (fr0 M M') → K (some (.inl v)) M'
  | _ => False
theorem rv_X8_strokes : zrv sp_X8_strokes 8 4 := by
  intro kd as M K h
  unfold sp_X8_strokes at h
  split at h
  · exact ⟨_, _, rfl, h.1⟩
  · exact h.elim
theorem dd_X8_strokes_0 : decode cX8_strokes 0 = .ok (.iload_n 1, 1) := by decide +kernel
theorem dd_X8_strokes_1 : decode cX8_strokes 1 = .ok (.invokestatic 78, 3) := by decide +kernel
theorem dd_X8_strokes_4 : decode cX8_strokes 4 = .ok (.ifCond .eq 38, 3) := by decide +kernel
theorem dd_X8_strokes_7 : decode cX8_strokes 7 = .ok (.iload_n 2, 1) := by decide +kernel
theorem dd_X8_strokes_8 : decode cX8_strokes 8 = .ok (.i2l, 1) := by decide +kernel
theorem dd_X8_strokes_9 : decode cX8_strokes 9 = .ok (.lconst 1, 1) := by decide +kernel
theorem dd_X8_strokes_10 : decode cX8_strokes 10 = .ok (.ldc2_w 180, 3) := by decide +kernel
theorem dd_X8_strokes_13 : decode cX8_strokes 13 = .ok (.invokestatic 54, 3) := by decide +kernel
theorem dd_X8_strokes_16 : decode cX8_strokes 16 = .ok (.ifCond .eq 26, 3) := by decide +kernel
theorem dd_X8_strokes_19 : decode cX8_strokes 19 = .ok (.iload_n 3, 1) := by decide +kernel
theorem dd_X8_strokes_20 : decode cX8_strokes 20 = .ok (.i2l, 1) := by decide +kernel
theorem dd_X8_strokes_21 : decode cX8_strokes 21 = .ok (.lconst 0, 1) := by decide +kernel
theorem dd_X8_strokes_22 : decode cX8_strokes 22 = .ok (.ldc2_w 103, 3) := by decide +kernel
theorem dd_X8_strokes_25 : decode cX8_strokes 25 = .ok (.invokestatic 54, 3) := by decide +kernel
theorem dd_X8_strokes_28 : decode cX8_strokes 28 = .ok (.ifCond .eq 14, 3) := by decide +kernel
theorem dd_X8_strokes_31 : decode cX8_strokes 31 = .ok (.iload 4, 2) := by decide +kernel
theorem dd_X8_strokes_33 : decode cX8_strokes 33 = .ok (.i2l, 1) := by decide +kernel
theorem dd_X8_strokes_34 : decode cX8_strokes 34 = .ok (.lconst 0, 1) := by decide +kernel
theorem dd_X8_strokes_35 : decode cX8_strokes 35 = .ok (.lconst 1, 1) := by decide +kernel
theorem dd_X8_strokes_36 : decode cX8_strokes 36 = .ok (.invokestatic 54, 3) := by decide +kernel
theorem dd_X8_strokes_39 : decode cX8_strokes 39 = .ok (.ifCond .ne 10, 3) := by decide +kernel
theorem dd_X8_strokes_42 : decode cX8_strokes 42 = .ok (.aload_n 0, 1) := by decide +kernel
theorem dd_X8_strokes_43 : decode cX8_strokes 43 = .ok (.bipush (-2), 2) := by decide +kernel
theorem dd_X8_strokes_45 : decode cX8_strokes 45 = .ok (.invokevirtual 81, 3) := by decide +kernel
theorem dd_X8_strokes_48 : decode cX8_strokes 48 = .ok (.ireturn, 1) := by decide +kernel
theorem dd_X8_strokes_49 : decode cX8_strokes 49 = .ok (.aload_n 0, 1) := by decide +kernel
theorem dd_X8_strokes_50 : decode cX8_strokes 50 = .ok (.iload_n 1, 1) := by decide +kernel
theorem dd_X8_strokes_51 : decode cX8_strokes 51 = .ok (.iload_n 2, 1) := by decide +kernel
theorem dd_X8_strokes_52 : decode cX8_strokes 52 = .ok (.aload_n 0, 1) := by decide +kernel
theorem dd_X8_strokes_53 : decode cX8_strokes 53 = .ok (.getfield 7, 3) := by decide +kernel
theorem dd_X8_strokes_56 : decode cX8_strokes 56 = .ok (.bipush 126, 2) := by decide +kernel
theorem dd_X8_strokes_58 : decode cX8_strokes 58 = .ok (.iaload, 1) := by decide +kernel
theorem dd_X8_strokes_59 : decode cX8_strokes 59 = .ok (.iload_n 3, 1) := by decide +kernel
theorem dd_X8_strokes_60 : decode cX8_strokes 60 = .ok (.iadd, 1) := by decide +kernel
theorem dd_X8_strokes_61 : decode cX8_strokes 61 = .ok (.invokevirtual 182, 3) := by decide +kernel
theorem dd_X8_strokes_64 : decode cX8_strokes 64 = .ok (.iload 4, 2) := by decide +kernel
theorem dd_X8_strokes_66 : decode cX8_strokes 66 = .ok (.ifCond .eq 11, 3) := by decide +kernel
theorem dd_X8_strokes_69 : decode cX8_strokes 69 = .ok (.aload_n 0, 1) := by decide +kernel
theorem dd_X8_strokes_70 : decode cX8_strokes 70 = .ok (.getfield 157, 3) := by decide +kernel
theorem dd_X8_strokes_73 : decode cX8_strokes 73 = .ok (.iconst (-1), 1) := by decide +kernel
theorem dd_X8_strokes_74 : decode cX8_strokes 74 = .ok (.if_icmp .ne 10, 3) := by decide +kernel
theorem dd_X8_strokes_77 : decode cX8_strokes 77 = .ok (.aload_n 0, 1) := by decide +kernel
theorem dd_X8_strokes_78 : decode cX8_strokes 78 = .ok (.getfield 157, 3) := by decide +kernel
theorem dd_X8_strokes_81 : decode cX8_strokes 81 = .ok (.goto 7, 3) := by decide +kernel
theorem dd_X8_strokes_84 : decode cX8_strokes 84 = .ok (.aload_n 0, 1) := by decide +kernel
theorem dd_X8_strokes_85 : decode cX8_strokes 85 = .ok (.getfield 174, 3) := by decide +kernel
theorem dd_X8_strokes_88 : decode cX8_strokes 88 = .ok (.ireturn, 1) := by decide +kernel
def tb_X8_strokes (kd : Nat → Nat) (K : zK) : zTab := [(0, zt_iload 1 1), (1, zt_call kd sp_X8_isThing 1 4), (4, zt_if (fun x => x = 0) (fun x => ¬ x = 0) 42 7), (7, zt_iload 2 8), (8, zt_un (fun x => zL x.toInt64) 9), (9, zt_const (zL 1) 10), (10, zt_const (zL 2) 13), (13, zt_call kd sp_X8_in 3 16), (16, zt_if (fun x => x = 0) (fun x => ¬ x = 0) 42 19), (19, zt_iload 3 20), (20, zt_un (fun x => zL x.toInt64) 21), (21, zt_const (zL 0) 22), (22, zt_const (zL 99) 25), (25, zt_call kd sp_X8_in 3 28), (28, zt_if (fun x => x = 0) (fun x => ¬ x = 0) 42 31), (31, zt_iload 4 33), (33, zt_un (fun x => zL x.toInt64) 34), (34, zt_const (zL 0) 35), (35, zt_const (zL 1) 36), (36, zt_call kd sp_X8_in 3 39), (39, zt_if (fun x => ¬ x = 0) (fun x => x = 0) 49 42), (42, zt_aload 0 43), (43, zt_const (zI (-2)) 45), (45, zt_call kd sp_X8_bad 2 48), (48, zt_iret K), (49, zt_aload 0 50), (50, zt_iload 1 51), (51, zt_iload 2 52), (52, zt_aload 0 53), (53, zt_getR kd 8 0 1 56), (56, zt_const (zI 126) 58), (58, zt_ald kd 0 59), (59, zt_iload 3 60), (60, zt_bin (fun x y => x + y) 61), (61, zt_call kd sp_X8_layStrokes 4 64), (64, zt_iload 4 66), (66, zt_if (fun x => x = 0) (fun x => ¬ x = 0) 77 69), (69, zt_aload 0 70), (70, zt_getI kd 8 10 73), (73, zt_const (zI (-1)) 74), (74, zt_icmp (fun x y => ¬ x = y) (fun x y => x = y) 84 77), (77, zt_aload 0 78), (78, zt_getI kd 8 10 81), (81, zt_goto 88), (84, zt_aload 0 85), (85, zt_getI kd 8 11 88), (88, zt_iret K)]
set_option maxRecDepth 20000 in
theorem tk_X8_strokes (d : Nat) (h_X8_isThing : zMS 2 yX8_isThing cX8_isThing 1 (some .boolean) sp_X8_isThing) (h_X8_in : zMS 1 yX8_in cX8_in 6 (some .boolean) sp_X8_in) (h_X8_bad : zMS 1 yX8_bad cX8_bad 2 (some .int) sp_X8_bad) (h_X8_layStrokes : zMS 9 yX8_layStrokes cX8_layStrokes 5 none sp_X8_layStrokes) : zTrue RX8 cX8_strokes 5 (some .int) (d + 10) (fun kd K => tb_X8_strokes kd K) := by
  intro p l e R s m args below meth c D cy A ad bl Qm K C0 hr hlocks hQ
  obtain ⟨hx, hb, hml, hown, hts, hK, hD, hA0, hN, hE, ⟨hR1, hR2⟩, hc1, hc2⟩ := id C0
  unfold tb_X8_strokes
  refine List.forall_mem_cons.mpr ⟨ok_iload_n hx hb rfl dd_X8_strokes_0, ?_⟩
  refine List.forall_mem_cons.mpr ⟨ok_callS (n := 1) C0 (h_X8_isThing (d + 9) (by omega)) (by decide) wd_931 wd_929 wd_930 wd_107 ⟨by decide +kernel, by decide +kernel, by decide +kernel⟩ dd_X8_strokes_1, ?_⟩
  refine List.forall_mem_cons.mpr ⟨ok_if_eq hx hb dd_X8_strokes_4 (by decide), ?_⟩
  refine List.forall_mem_cons.mpr ⟨ok_iload_n hx hb rfl dd_X8_strokes_7, ?_⟩
  refine List.forall_mem_cons.mpr ⟨ok_i2l hx hb dd_X8_strokes_8, ?_⟩
  refine List.forall_mem_cons.mpr ⟨ok_lconst hx hb dd_X8_strokes_9 (by decide), ?_⟩
  refine List.forall_mem_cons.mpr ⟨ok_ldc2 hx hb hown (hts _ wd_1054) dd_X8_strokes_10, ?_⟩
  refine List.forall_mem_cons.mpr ⟨ok_callS (n := 3) C0 (h_X8_in (d + 9) (by omega)) (by decide) wd_928 wd_926 wd_927 wd_107 ⟨by decide +kernel, by decide +kernel, by decide +kernel⟩ dd_X8_strokes_13, ?_⟩
  refine List.forall_mem_cons.mpr ⟨ok_if_eq hx hb dd_X8_strokes_16 (by decide), ?_⟩
  refine List.forall_mem_cons.mpr ⟨ok_iload_n hx hb rfl dd_X8_strokes_19, ?_⟩
  refine List.forall_mem_cons.mpr ⟨ok_i2l hx hb dd_X8_strokes_20, ?_⟩
  refine List.forall_mem_cons.mpr ⟨ok_lconst hx hb dd_X8_strokes_21 (by decide), ?_⟩
  refine List.forall_mem_cons.mpr ⟨ok_ldc2 hx hb hown (hts _ wd_969) dd_X8_strokes_22, ?_⟩
  refine List.forall_mem_cons.mpr ⟨ok_callS (n := 3) C0 (h_X8_in (d + 9) (by omega)) (by decide) wd_928 wd_926 wd_927 wd_107 ⟨by decide +kernel, by decide +kernel, by decide +kernel⟩ dd_X8_strokes_25, ?_⟩
  refine List.forall_mem_cons.mpr ⟨ok_if_eq hx hb dd_X8_strokes_28 (by decide), ?_⟩
  refine List.forall_mem_cons.mpr ⟨ok_iload hx hb dd_X8_strokes_31, ?_⟩
  refine List.forall_mem_cons.mpr ⟨ok_i2l hx hb dd_X8_strokes_33, ?_⟩
  refine List.forall_mem_cons.mpr ⟨ok_lconst hx hb dd_X8_strokes_34 (by decide), ?_⟩
  refine List.forall_mem_cons.mpr ⟨ok_lconst hx hb dd_X8_strokes_35 (by decide), ?_⟩
  refine List.forall_mem_cons.mpr ⟨ok_callS (n := 3) C0 (h_X8_in (d + 9) (by omega)) (by decide) wd_928 wd_926 wd_927 wd_107 ⟨by decide +kernel, by decide +kernel, by decide +kernel⟩ dd_X8_strokes_36, ?_⟩
  refine List.forall_mem_cons.mpr ⟨ok_if_ne hx hb dd_X8_strokes_39 (by decide), ?_⟩
  refine List.forall_mem_cons.mpr ⟨ok_aload_n hx hb rfl dd_X8_strokes_42, ?_⟩
  refine List.forall_mem_cons.mpr ⟨ok_bipush hx hb dd_X8_strokes_43 (by decide), ?_⟩
  refine List.forall_mem_cons.mpr ⟨ok_callV (n := 1) zc_X8 rv_X8_bad C0 (h_X8_bad (d + 9) (by omega)) (by decide) wd_936 wd_933 wd_935 wd_62 wd_107 ⟨rfl, by decide +kernel, by decide +kernel, by decide +kernel⟩ dd_X8_strokes_45, ?_⟩
  refine List.forall_mem_cons.mpr ⟨ok_iret hx hb hr hlocks hQ dd_X8_strokes_48, ?_⟩
  refine List.forall_mem_cons.mpr ⟨ok_aload_n hx hb rfl dd_X8_strokes_49, ?_⟩
  refine List.forall_mem_cons.mpr ⟨ok_iload_n hx hb rfl dd_X8_strokes_50, ?_⟩
  refine List.forall_mem_cons.mpr ⟨ok_iload_n hx hb rfl dd_X8_strokes_51, ?_⟩
  refine List.forall_mem_cons.mpr ⟨ok_aload_n hx hb rfl dd_X8_strokes_52, ?_⟩
  refine List.forall_mem_cons.mpr ⟨ok_getR (j := 0) hx hb hts zi_X8 hown hK zc_X8 (by decide) rfl (fun t fl h => by cases h; rfl) (hts _ wd_840) dd_X8_strokes_53, ?_⟩
  refine List.forall_mem_cons.mpr ⟨ok_bipush hx hb dd_X8_strokes_56 (by decide), ?_⟩
  refine List.forall_mem_cons.mpr ⟨ok_ald (ty := 0) rfl hx hb hK (Or.inl ⟨rfl, rfl, dd_X8_strokes_58⟩), ?_⟩
  refine List.forall_mem_cons.mpr ⟨ok_iload_n hx hb rfl dd_X8_strokes_59, ?_⟩
  refine List.forall_mem_cons.mpr ⟨ok_iadd hx hb dd_X8_strokes_60, ?_⟩
  refine List.forall_mem_cons.mpr ⟨ok_callV (n := 3) zc_X8 rv_X8_layStrokes C0 (h_X8_layStrokes (d + 9) (by omega)) (by decide) wd_1058 wd_1055 wd_1057 wd_75 wd_107 ⟨rfl, by decide +kernel, by decide +kernel, by decide +kernel⟩ dd_X8_strokes_61, ?_⟩
  refine List.forall_mem_cons.mpr ⟨ok_iload hx hb dd_X8_strokes_64, ?_⟩
  refine List.forall_mem_cons.mpr ⟨ok_if_eq hx hb dd_X8_strokes_66 (by decide), ?_⟩
  refine List.forall_mem_cons.mpr ⟨ok_aload_n hx hb rfl dd_X8_strokes_69, ?_⟩
  refine List.forall_mem_cons.mpr ⟨ok_getI (j := 10) hx hb hts zi_X8 hown hK zc_X8 (by decide) rfl (fun t fl h => by cases h; rfl) (hts _ wd_850) dd_X8_strokes_70, ?_⟩
  refine List.forall_mem_cons.mpr ⟨ok_iconst hx hb dd_X8_strokes_73 (by decide), ?_⟩
  refine List.forall_mem_cons.mpr ⟨ok_icmp_ne hx hb dd_X8_strokes_74 (by decide), ?_⟩
  refine List.forall_mem_cons.mpr ⟨ok_aload_n hx hb rfl dd_X8_strokes_77, ?_⟩
  refine List.forall_mem_cons.mpr ⟨ok_getI (j := 10) hx hb hts zi_X8 hown hK zc_X8 (by decide) rfl (fun t fl h => by cases h; rfl) (hts _ wd_850) dd_X8_strokes_78, ?_⟩
  refine List.forall_mem_cons.mpr ⟨ok_goto hx hb dd_X8_strokes_81 (by decide), ?_⟩
  refine List.forall_mem_cons.mpr ⟨ok_aload_n hx hb rfl dd_X8_strokes_84, ?_⟩
  refine List.forall_mem_cons.mpr ⟨ok_getI (j := 11) hx hb hts zi_X8 hown hK zc_X8 (by decide) rfl (fun t fl h => by cases h; rfl) (hts _ wd_851) dd_X8_strokes_85, ?_⟩
  refine List.forall_mem_cons.mpr ⟨ok_iret hx hb hr hlocks hQ dd_X8_strokes_88, ?_⟩
  exact fun _ h => absurd h List.not_mem_nil
set_option maxRecDepth 100000 in
theorem vc_X8_strokes_0 {kd : Nat → Nat} {K : zK} {X : zX} (hX : ∀ (n pc : Nat) (ls : zLS) (st : List zV) (M : zM), zrun (tb_X8_strokes kd K) [] n X pc ls st M → X pc ls st M) {g : Int32} {z : Int32} {y : Int32} {w : Int32} {M : zM} (hk0 : kd 9 = 8) (h : ∀ v1 : Int32, (v1 = zp (isT g.toInt)) → ((v1 = 0) → ∀ v2 : Int32, (v2 = (-2 : Int32)) → ∀ M2 : zM, (M2 = zmw M 9 4 (upd (M.1 9 4) 0 (M.1 9 4 0 + 1))) → K (some (zI (v2))) M2) ∧ ((¬ v1 = 0) → ∀ v3 : Int32, (v3 = zp ((1 : Int64).toInt ≤ z.toInt64.toInt ∧ z.toInt64.toInt ≤ (2 : Int64).toInt)) → ((v3 = 0) → ∀ v4 : Int32, (v4 = (-2 : Int32)) → ∀ M4 : zM, (M4 = zmw M 9 4 (upd (M.1 9 4) 0 (M.1 9 4 0 + 1))) → K (some (zI (v4))) M4) ∧ ((¬ v3 = 0) → ∀ v5 : Int32, (v5 = zp ((0 : Int64).toInt ≤ y.toInt64.toInt ∧ y.toInt64.toInt ≤ (99 : Int64).toInt)) → ((v5 = 0) → ∀ v6 : Int32, (v6 = (-2 : Int32)) → ∀ M6 : zM, (M6 = zmw M 9 4 (upd (M.1 9 4) 0 (M.1 9 4 0 + 1))) → K (some (zI (v6))) M6) ∧ ((¬ v5 = 0) → ∀ v7 : Int32, (v7 = zp ((0 : Int64).toInt ≤ w.toInt64.toInt ∧ w.toInt64.toInt ≤ (1 : Int64).toInt)) → ((¬ v7 = 0) → (zin (kd 9) 1 0 (126 : Int32)) ∧ ∃ a8 : Sk, (RpF (M.1 9 1) a8) ∧ (isT g.toInt ∧ inn z.toInt 1 2 ∧ 0 ≤ ((M.1 9 1 ((126 : Int32)).toNatClampNeg) + y).toInt ∧ ((M.1 9 1 ((126 : Int32)).toNatClampNeg) + y).toInt < 1000000) ∧ ∀ M8 : zM, (scr M M8) → (str1 a8 g.toInt ((M.1 9 1 ((126 : Int32)).toNatClampNeg) + y).toInt z.toInt (M8.1 9 0 10).toInt (M8.1 9 0 11).toInt) → ((w = 0) → K (some (zI (M8.1 9 0 10))) M8) ∧ ((¬ w = 0) → ((¬ (M8.1 9 0 10) = (-1 : Int32)) → K (some (zI (M8.1 9 0 11))) M8) ∧ (((M8.1 9 0 10) = (-1 : Int32)) → K (some (zI (M8.1 9 0 10))) M8))) ∧ ((v7 = 0) → ∀ v9 : Int32, (v9 = (-2 : Int32)) → ∀ M9 : zM, (M9 = zmw M 9 4 (upd (M.1 9 4) 0 (M.1 9 4 0 + 1))) → K (some (zI (v9))) M9))))) : X 0 [some (zR 9 0), some (zI (g)), some (zI (z)), some (zI (y)), some (zI (w))] [] M := hX 42 0 _ [] M (show ∀ v1 : Int32, (v1 = zp (isT g.toInt)) → ((v1 = 0) → (kd 9 = 8) ∧ ∀ v2 : Int32, (v2 = (-2 : Int32)) → ∀ M2 : zM, (M2 = zmw M 9 4 (upd (M.1 9 4) 0 (M.1 9 4 0 + 1))) → K (some (zI (v2))) M2) ∧ ((¬ v1 = 0) → ∀ v3 : Int32, (v3 = zp ((1 : Int64).toInt ≤ z.toInt64.toInt ∧ z.toInt64.toInt ≤ (2 : Int64).toInt)) → ((v3 = 0) → (kd 9 = 8) ∧ ∀ v4 : Int32, (v4 = (-2 : Int32)) → ∀ M4 : zM, (M4 = zmw M 9 4 (upd (M.1 9 4) 0 (M.1 9 4 0 + 1))) → K (some (zI (v4))) M4) ∧ ((¬ v3 = 0) → ∀ v5 : Int32, (v5 = zp ((0 : Int64).toInt ≤ y.toInt64.toInt ∧ y.toInt64.toInt ≤ (99 : Int64).toInt)) → ((v5 = 0) → (kd 9 = 8) ∧ ∀ v6 : Int32, (v6 = (-2 : Int32)) → ∀ M6 : zM, (M6 = zmw M 9 4 (upd (M.1 9 4) 0 (M.1 9 4 0 + 1))) → K (some (zI (v6))) M6) ∧ ((¬ v5 = 0) → ∀ v7 : Int32, (v7 = zp ((0 : Int64).toInt ≤ w.toInt64.toInt ∧ w.toInt64.toInt ≤ (1 : Int64).toInt)) → ((¬ v7 = 0) → (kd 9 = 8) ∧ (zin (kd 9) 1 0 (126 : Int32)) ∧ (kd 9 = 8) ∧ ∃ a8 : Sk, (RpF (M.1 9 1) a8) ∧ (isT g.toInt ∧ inn z.toInt 1 2 ∧ 0 ≤ ((M.1 9 1 ((126 : Int32)).toNatClampNeg) + y).toInt ∧ ((M.1 9 1 ((126 : Int32)).toNatClampNeg) + y).toInt < 1000000) ∧ ∀ M8 : zM, (scr M M8) → (str1 a8 g.toInt ((M.1 9 1 ((126 : Int32)).toNatClampNeg) + y).toInt z.toInt (M8.1 9 0 10).toInt (M8.1 9 0 11).toInt) → ((w = 0) → (kd 9 = 8) ∧ K (some (zI (M8.1 9 0 10))) M8) ∧ ((¬ w = 0) → (kd 9 = 8) ∧ ((¬ (M8.1 9 0 10) = (-1 : Int32)) → (kd 9 = 8) ∧ K (some (zI (M8.1 9 0 11))) M8) ∧ (((M8.1 9 0 10) = (-1 : Int32)) → (kd 9 = 8) ∧ K (some (zI (M8.1 9 0 10))) M8))) ∧ ((v7 = 0) → (kd 9 = 8) ∧ ∀ v9 : Int32, (v9 = (-2 : Int32)) → ∀ M9 : zM, (M9 = zmw M 9 4 (upd (M.1 9 4) 0 (M.1 9 4 0 + 1))) → K (some (zI (v9))) M9)))) from fun v1 => have h := h v1; fun q => have h := h q; ⟨fun q => have h := h.1 q; ⟨hk0, fun v2 => have h := h v2; fun q => have h := h q; fun M2 => have h := h M2; fun q => have h := h q; h⟩, fun q => have h := h.2 q; fun v3 => have h := h v3; fun q => have h := h q; ⟨fun q => have h := h.1 q; ⟨hk0, fun v4 => have h := h v4; fun q => have h := h q; fun M4 => have h := h M4; fun q => have h := h q; h⟩, fun q => have h := h.2 q; fun v5 => have h := h v5; fun q => have h := h q; ⟨fun q => have h := h.1 q; ⟨hk0, fun v6 => have h := h v6; fun q => have h := h q; fun M6 => have h := h M6; fun q => have h := h q; h⟩, fun q => have h := h.2 q; fun v7 => have h := h v7; fun q => have h := h q; ⟨fun q => have h := h.1 q; ⟨hk0, ⟨h.1, have h := h.2; ⟨hk0, h.elim (fun a8 h => ⟨a8, ⟨h.1, have h := h.2; ⟨h.1, have h := h.2; fun M8 => have h := h M8; fun q => have h := h q; fun q => have h := h q; ⟨fun q => have h := h.1 q; ⟨hk0, h⟩, fun q => have h := h.2 q; ⟨hk0, ⟨fun q => have h := h.1 q; ⟨hk0, h⟩, fun q => have h := h.2 q; ⟨hk0, h⟩⟩⟩⟩⟩⟩⟩)⟩⟩⟩, fun q => have h := h.2 q; ⟨hk0, fun v9 => have h := h v9; fun q => have h := h q; fun M9 => have h := h M9; fun q => have h := h q; h⟩⟩⟩⟩⟩)
