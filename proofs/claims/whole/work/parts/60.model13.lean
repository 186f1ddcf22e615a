def sp_X8_hangs : zSpec := fun kd as M K => match as with
  | [.inr (.inr (.inl (9, 0))), .inl c, .inl i, .inl y] => (kd 9 = 8) ∧ ∃ s : St, (RpM M s) ∧ ∀ v : Int32, (v.toInt = (ev_hangs s c.toInt i.toInt y.toInt).1) → ∀ M' : zM, (RpM M' (ev_hangs s c.toInt i.toInt y.toInt).2) → (fr0 M M') → K (some (.inl v)) M'
  | _ => False
theorem rv_X8_hangs : zrv sp_X8_hangs 8 3 := by
  intro kd as M K h
  unfold sp_X8_hangs at h
  split at h
  · exact ⟨_, _, rfl, h.1⟩
  · exact h.elim
theorem dd_X8_hangs_0 : decode cX8_hangs 0 = .ok (.aload_n 0, 1) := by decide +kernel
theorem dd_X8_hangs_1 : decode cX8_hangs 1 = .ok (.iload_n 1, 1) := by decide +kernel
theorem dd_X8_hangs_2 : decode cX8_hangs 2 = .ok (.iload_n 2, 1) := by decide +kernel
theorem dd_X8_hangs_3 : decode cX8_hangs 3 = .ok (.invokevirtual 109, 3) := by decide +kernel
theorem dd_X8_hangs_6 : decode cX8_hangs 6 = .ok (.ifCond .eq 10, 3) := by decide +kernel
theorem dd_X8_hangs_9 : decode cX8_hangs 9 = .ok (.iload_n 3, 1) := by decide +kernel
theorem dd_X8_hangs_10 : decode cX8_hangs 10 = .ok (.invokestatic 142, 3) := by decide +kernel
theorem dd_X8_hangs_13 : decode cX8_hangs 13 = .ok (.ifCond .ne 10, 3) := by decide +kernel
theorem dd_X8_hangs_16 : decode cX8_hangs 16 = .ok (.aload_n 0, 1) := by decide +kernel
theorem dd_X8_hangs_17 : decode cX8_hangs 17 = .ok (.bipush (-2), 2) := by decide +kernel
theorem dd_X8_hangs_19 : decode cX8_hangs 19 = .ok (.invokevirtual 81, 3) := by decide +kernel
theorem dd_X8_hangs_22 : decode cX8_hangs 22 = .ok (.ireturn, 1) := by decide +kernel
theorem dd_X8_hangs_23 : decode cX8_hangs 23 = .ok (.aload_n 0, 1) := by decide +kernel
theorem dd_X8_hangs_24 : decode cX8_hangs 24 = .ok (.invokevirtual 145, 3) := by decide +kernel
theorem dd_X8_hangs_27 : decode cX8_hangs 27 = .ok (.aload_n 0, 1) := by decide +kernel
theorem dd_X8_hangs_28 : decode cX8_hangs 28 = .ok (.aload_n 0, 1) := by decide +kernel
theorem dd_X8_hangs_29 : decode cX8_hangs 29 = .ok (.iload_n 1, 1) := by decide +kernel
theorem dd_X8_hangs_30 : decode cX8_hangs 30 = .ok (.iload_n 2, 1) := by decide +kernel
theorem dd_X8_hangs_31 : decode cX8_hangs 31 = .ok (.iconst 1, 1) := by decide +kernel
theorem dd_X8_hangs_32 : decode cX8_hangs 32 = .ok (.invokevirtual 113, 3) := by decide +kernel
theorem dd_X8_hangs_35 : decode cX8_hangs 35 = .ok (.iload_n 3, 1) := by decide +kernel
theorem dd_X8_hangs_36 : decode cX8_hangs 36 = .ok (.invokevirtual 134, 3) := by decide +kernel
theorem dd_X8_hangs_39 : decode cX8_hangs 39 = .ok (.aload_n 0, 1) := by decide +kernel
theorem dd_X8_hangs_40 : decode cX8_hangs 40 = .ok (.iload_n 1, 1) := by decide +kernel
theorem dd_X8_hangs_41 : decode cX8_hangs 41 = .ok (.iload_n 2, 1) := by decide +kernel
theorem dd_X8_hangs_42 : decode cX8_hangs 42 = .ok (.iconst 2, 1) := by decide +kernel
theorem dd_X8_hangs_43 : decode cX8_hangs 43 = .ok (.invokevirtual 113, 3) := by decide +kernel
theorem dd_X8_hangs_46 : decode cX8_hangs 46 = .ok (.iconst 1, 1) := by decide +kernel
theorem dd_X8_hangs_47 : decode cX8_hangs 47 = .ok (.if_icmp .ne 10, 3) := by decide +kernel
theorem dd_X8_hangs_50 : decode cX8_hangs 50 = .ok (.aload_n 0, 1) := by decide +kernel
theorem dd_X8_hangs_51 : decode cX8_hangs 51 = .ok (.getfield 123, 3) := by decide +kernel
theorem dd_X8_hangs_54 : decode cX8_hangs 54 = .ok (.goto 7, 3) := by decide +kernel
theorem dd_X8_hangs_57 : decode cX8_hangs 57 = .ok (.aload_n 0, 1) := by decide +kernel
theorem dd_X8_hangs_58 : decode cX8_hangs 58 = .ok (.getfield 127, 3) := by decide +kernel
theorem dd_X8_hangs_61 : decode cX8_hangs 61 = .ok (.istore 4, 2) := by decide +kernel
theorem dd_X8_hangs_63 : decode cX8_hangs 63 = .ok (.iload 4, 2) := by decide +kernel
theorem dd_X8_hangs_65 : decode cX8_hangs 65 = .ok (.iconst 1, 1) := by decide +kernel
theorem dd_X8_hangs_66 : decode cX8_hangs 66 = .ok (.if_icmp .ne 25, 3) := by decide +kernel
theorem dd_X8_hangs_69 : decode cX8_hangs 69 = .ok (.aload_n 0, 1) := by decide +kernel
theorem dd_X8_hangs_70 : decode cX8_hangs 70 = .ok (.iload_n 1, 1) := by decide +kernel
theorem dd_X8_hangs_71 : decode cX8_hangs 71 = .ok (.iload_n 2, 1) := by decide +kernel
theorem dd_X8_hangs_72 : decode cX8_hangs 72 = .ok (.iload_n 3, 1) := by decide +kernel
theorem dd_X8_hangs_73 : decode cX8_hangs 73 = .ok (.invokevirtual 130, 3) := by decide +kernel
theorem dd_X8_hangs_76 : decode cX8_hangs 76 = .ok (.ifCond .eq 15, 3) := by decide +kernel
theorem dd_X8_hangs_79 : decode cX8_hangs 79 = .ok (.iconst 1, 1) := by decide +kernel
theorem dd_X8_hangs_80 : decode cX8_hangs 80 = .ok (.aload_n 0, 1) := by decide +kernel
theorem dd_X8_hangs_81 : decode cX8_hangs 81 = .ok (.iload_n 1, 1) := by decide +kernel
theorem dd_X8_hangs_82 : decode cX8_hangs 82 = .ok (.iload_n 2, 1) := by decide +kernel
theorem dd_X8_hangs_83 : decode cX8_hangs 83 = .ok (.iconst 1, 1) := by decide +kernel
theorem dd_X8_hangs_84 : decode cX8_hangs 84 = .ok (.invokevirtual 113, 3) := by decide +kernel
theorem dd_X8_hangs_87 : decode cX8_hangs 87 = .ok (.ishl, 1) := by decide +kernel
theorem dd_X8_hangs_88 : decode cX8_hangs 88 = .ok (.goto 4, 3) := by decide +kernel
theorem dd_X8_hangs_91 : decode cX8_hangs 91 = .ok (.iconst 0, 1) := by decide +kernel
theorem dd_X8_hangs_92 : decode cX8_hangs 92 = .ok (.ireturn, 1) := by decide +kernel
def tb_X8_hangs (kd : Nat → Nat) (K : zK) : zTab := [(0, zt_aload 0 1), (1, zt_iload 1 2), (2, zt_iload 2 3), (3, zt_call kd sp_X8_isLayer 3 6), (6, zt_if (fun x => x = 0) (fun x => ¬ x = 0) 16 9), (9, zt_iload 3 10), (10, zt_call kd sp_X8_isYear 1 13), (13, zt_if (fun x => ¬ x = 0) (fun x => x = 0) 23 16), (16, zt_aload 0 17), (17, zt_const (zI (-2)) 19), (19, zt_call kd sp_X8_bad 2 22), (22, zt_iret K), (23, zt_aload 0 24), (24, zt_call kd sp_X8_layHand 1 27), (27, zt_aload 0 28), (28, zt_aload 0 29), (29, zt_iload 1 30), (30, zt_iload 2 31), (31, zt_const (zI 1) 32), (32, zt_call kd sp_X8_hands 4 35), (35, zt_iload 3 36), (36, zt_call kd sp_X8_layRule 3 39), (39, zt_aload 0 40), (40, zt_iload 1 41), (41, zt_iload 2 42), (42, zt_const (zI 2) 43), (43, zt_call kd sp_X8_hands 4 46), (46, zt_const (zI 1) 47), (47, zt_icmp (fun x y => ¬ x = y) (fun x y => x = y) 57 50), (50, zt_aload 0 51), (51, zt_getI kd 8 7 54), (54, zt_goto 61), (57, zt_aload 0 58), (58, zt_getI kd 8 8 61), (61, zt_istore 4 63), (63, zt_iload 4 65), (65, zt_const (zI 1) 66), (66, zt_icmp (fun x y => ¬ x = y) (fun x y => x = y) 91 69), (69, zt_aload 0 70), (70, zt_iload 1 71), (71, zt_iload 2 72), (72, zt_iload 3 73), (73, zt_call kd sp_X8_bindsNow 4 76), (76, zt_if (fun x => x = 0) (fun x => ¬ x = 0) 91 79), (79, zt_const (zI 1) 80), (80, zt_aload 0 81), (81, zt_iload 1 82), (82, zt_iload 2 83), (83, zt_const (zI 1) 84), (84, zt_call kd sp_X8_hands 4 87), (87, zt_bin (fun x y => x <<< (y &&& 31)) 88), (88, zt_goto 92), (91, zt_const (zI 0) 92), (92, zt_iret K)]
set_option maxRecDepth 20000 in
theorem tk_X8_hangs (d : Nat) (h_X8_isLayer : zMS 3 yX8_isLayer cX8_isLayer 3 (some .boolean) sp_X8_isLayer) (h_X8_isYear : zMS 2 yX8_isYear cX8_isYear 1 (some .boolean) sp_X8_isYear) (h_X8_bad : zMS 1 yX8_bad cX8_bad 2 (some .int) sp_X8_bad) (h_X8_layHand : zMS 1 yX8_layHand cX8_layHand 2 none sp_X8_layHand) (h_X8_hands : zMS 2 yX8_hands cX8_hands 4 (some .int) sp_X8_hands) (h_X8_layRule : zMS 6 yX8_layRule cX8_layRule 5 none sp_X8_layRule) (h_X8_bindsNow : zMS 5 yX8_bindsNow cX8_bindsNow 4 (some .boolean) sp_X8_bindsNow) : zTrue RX8 cX8_hangs 5 (some .int) (d + 7) (fun kd K => tb_X8_hangs kd K) := by
  intro p l e R s m args below meth c D cy A ad bl Qm K C0 hr hlocks hQ
  obtain ⟨hx, hb, hml, hown, hts, hK, hD, hA0, hN, hE, ⟨hR1, hR2⟩, hc1, hc2⟩ := id C0
  unfold tb_X8_hangs
  refine List.forall_mem_cons.mpr ⟨ok_aload_n hx hb rfl dd_X8_hangs_0, ?_⟩
  refine List.forall_mem_cons.mpr ⟨ok_iload_n hx hb rfl dd_X8_hangs_1, ?_⟩
  refine List.forall_mem_cons.mpr ⟨ok_iload_n hx hb rfl dd_X8_hangs_2, ?_⟩
  refine List.forall_mem_cons.mpr ⟨ok_callV (n := 2) zc_X8 rv_X8_isLayer C0 (h_X8_isLayer (d + 6) (by omega)) (by decide) wd_988 wd_985 wd_987 wd_66 wd_107 ⟨rfl, by decide +kernel, by decide +kernel, by decide +kernel⟩ dd_X8_hangs_3, ?_⟩
  refine List.forall_mem_cons.mpr ⟨ok_if_eq hx hb dd_X8_hangs_6 (by decide), ?_⟩
  refine List.forall_mem_cons.mpr ⟨ok_iload_n hx hb rfl dd_X8_hangs_9, ?_⟩
  refine List.forall_mem_cons.mpr ⟨ok_callS (n := 1) C0 (h_X8_isYear (d + 6) (by omega)) (by decide) wd_995 wd_993 wd_994 wd_107 ⟨by decide +kernel, by decide +kernel, by decide +kernel⟩ dd_X8_hangs_10, ?_⟩
  refine List.forall_mem_cons.mpr ⟨ok_if_ne hx hb dd_X8_hangs_13 (by decide), ?_⟩
  refine List.forall_mem_cons.mpr ⟨ok_aload_n hx hb rfl dd_X8_hangs_16, ?_⟩
  refine List.forall_mem_cons.mpr ⟨ok_bipush hx hb dd_X8_hangs_17 (by decide), ?_⟩
  refine List.forall_mem_cons.mpr ⟨ok_callV (n := 1) zc_X8 rv_X8_bad C0 (h_X8_bad (d + 6) (by omega)) (by decide) wd_936 wd_933 wd_935 wd_62 wd_107 ⟨rfl, by decide +kernel, by decide +kernel, by decide +kernel⟩ dd_X8_hangs_19, ?_⟩
  refine List.forall_mem_cons.mpr ⟨ok_iret hx hb hr hlocks hQ dd_X8_hangs_22, ?_⟩
  refine List.forall_mem_cons.mpr ⟨ok_aload_n hx hb rfl dd_X8_hangs_23, ?_⟩
  refine List.forall_mem_cons.mpr ⟨ok_callV (n := 0) zc_X8 rv_X8_layHand C0 (h_X8_layHand (d + 6) (by omega)) (by decide) wd_1000 wd_997 wd_999 wd_67 wd_107 ⟨rfl, by decide +kernel, by decide +kernel, by decide +kernel⟩ dd_X8_hangs_24, ?_⟩
  refine List.forall_mem_cons.mpr ⟨ok_aload_n hx hb rfl dd_X8_hangs_27, ?_⟩
  refine List.forall_mem_cons.mpr ⟨ok_aload_n hx hb rfl dd_X8_hangs_28, ?_⟩
  refine List.forall_mem_cons.mpr ⟨ok_iload_n hx hb rfl dd_X8_hangs_29, ?_⟩
  refine List.forall_mem_cons.mpr ⟨ok_iload_n hx hb rfl dd_X8_hangs_30, ?_⟩
  refine List.forall_mem_cons.mpr ⟨ok_iconst hx hb dd_X8_hangs_31 (by decide), ?_⟩
  refine List.forall_mem_cons.mpr ⟨ok_callV (n := 3) zc_X8 rv_X8_hands C0 (h_X8_hands (d + 6) (by omega)) (by decide) wd_1008 wd_1005 wd_1007 wd_69 wd_107 ⟨rfl, by decide +kernel, by decide +kernel, by decide +kernel⟩ dd_X8_hangs_32, ?_⟩
  refine List.forall_mem_cons.mpr ⟨ok_iload_n hx hb rfl dd_X8_hangs_35, ?_⟩
  refine List.forall_mem_cons.mpr ⟨ok_callV (n := 2) zc_X8 rv_X8_layRule C0 (h_X8_layRule (d + 6) (by omega)) (by decide) wd_1028 wd_1025 wd_1027 wd_73 wd_107 ⟨rfl, by decide +kernel, by decide +kernel, by decide +kernel⟩ dd_X8_hangs_36, ?_⟩
  refine List.forall_mem_cons.mpr ⟨ok_aload_n hx hb rfl dd_X8_hangs_39, ?_⟩
  refine List.forall_mem_cons.mpr ⟨ok_iload_n hx hb rfl dd_X8_hangs_40, ?_⟩
  refine List.forall_mem_cons.mpr ⟨ok_iload_n hx hb rfl dd_X8_hangs_41, ?_⟩
  refine List.forall_mem_cons.mpr ⟨ok_iconst hx hb dd_X8_hangs_42 (by decide), ?_⟩
  refine List.forall_mem_cons.mpr ⟨ok_callV (n := 3) zc_X8 rv_X8_hands C0 (h_X8_hands (d + 6) (by omega)) (by decide) wd_1008 wd_1005 wd_1007 wd_69 wd_107 ⟨rfl, by decide +kernel, by decide +kernel, by decide +kernel⟩ dd_X8_hangs_43, ?_⟩
  refine List.forall_mem_cons.mpr ⟨ok_iconst hx hb dd_X8_hangs_46 (by decide), ?_⟩
  refine List.forall_mem_cons.mpr ⟨ok_icmp_ne hx hb dd_X8_hangs_47 (by decide), ?_⟩
  refine List.forall_mem_cons.mpr ⟨ok_aload_n hx hb rfl dd_X8_hangs_50, ?_⟩
  refine List.forall_mem_cons.mpr ⟨ok_getI (j := 7) hx hb hts zi_X8 hown hK zc_X8 (by decide) rfl (fun t fl h => by cases h; rfl) (hts _ wd_847) dd_X8_hangs_51, ?_⟩
  refine List.forall_mem_cons.mpr ⟨ok_goto hx hb dd_X8_hangs_54 (by decide), ?_⟩
  refine List.forall_mem_cons.mpr ⟨ok_aload_n hx hb rfl dd_X8_hangs_57, ?_⟩
  refine List.forall_mem_cons.mpr ⟨ok_getI (j := 8) hx hb hts zi_X8 hown hK zc_X8 (by decide) rfl (fun t fl h => by cases h; rfl) (hts _ wd_848) dd_X8_hangs_58, ?_⟩
  refine List.forall_mem_cons.mpr ⟨ok_istore hx hb dd_X8_hangs_61, ?_⟩
  refine List.forall_mem_cons.mpr ⟨ok_iload hx hb dd_X8_hangs_63, ?_⟩
  refine List.forall_mem_cons.mpr ⟨ok_iconst hx hb dd_X8_hangs_65 (by decide), ?_⟩
  refine List.forall_mem_cons.mpr ⟨ok_icmp_ne hx hb dd_X8_hangs_66 (by decide), ?_⟩
  refine List.forall_mem_cons.mpr ⟨ok_aload_n hx hb rfl dd_X8_hangs_69, ?_⟩
  refine List.forall_mem_cons.mpr ⟨ok_iload_n hx hb rfl dd_X8_hangs_70, ?_⟩
  refine List.forall_mem_cons.mpr ⟨ok_iload_n hx hb rfl dd_X8_hangs_71, ?_⟩
  refine List.forall_mem_cons.mpr ⟨ok_iload_n hx hb rfl dd_X8_hangs_72, ?_⟩
  refine List.forall_mem_cons.mpr ⟨ok_callV (n := 3) zc_X8 rv_X8_bindsNow C0 (h_X8_bindsNow (d + 6) (by omega)) (by decide) wd_1004 wd_1001 wd_1003 wd_68 wd_107 ⟨rfl, by decide +kernel, by decide +kernel, by decide +kernel⟩ dd_X8_hangs_73, ?_⟩
  refine List.forall_mem_cons.mpr ⟨ok_if_eq hx hb dd_X8_hangs_76 (by decide), ?_⟩
  refine List.forall_mem_cons.mpr ⟨ok_iconst hx hb dd_X8_hangs_79 (by decide), ?_⟩
  refine List.forall_mem_cons.mpr ⟨ok_aload_n hx hb rfl dd_X8_hangs_80, ?_⟩
  refine List.forall_mem_cons.mpr ⟨ok_iload_n hx hb rfl dd_X8_hangs_81, ?_⟩
  refine List.forall_mem_cons.mpr ⟨ok_iload_n hx hb rfl dd_X8_hangs_82, ?_⟩
  refine List.forall_mem_cons.mpr ⟨ok_iconst hx hb dd_X8_hangs_83 (by decide), ?_⟩
  refine List.forall_mem_cons.mpr ⟨ok_callV (n := 3) zc_X8 rv_X8_hands C0 (h_X8_hands (d + 6) (by omega)) (by decide) wd_1008 wd_1005 wd_1007 wd_69 wd_107 ⟨rfl, by decide +kernel, by decide +kernel, by decide +kernel⟩ dd_X8_hangs_84, ?_⟩
  refine List.forall_mem_cons.mpr ⟨ok_ishl hx hb dd_X8_hangs_87, ?_⟩
  refine List.forall_mem_cons.mpr ⟨ok_goto hx hb dd_X8_hangs_88 (by decide), ?_⟩
  refine List.forall_mem_cons.mpr ⟨ok_iconst hx hb dd_X8_hangs_91 (by decide), ?_⟩
  refine List.forall_mem_cons.mpr ⟨ok_iret hx hb hr hlocks hQ dd_X8_hangs_92, ?_⟩
  exact fun _ h => absurd h List.not_mem_nil
set_option maxRecDepth 100000 in
theorem vc_X8_hangs_0 {kd : Nat → Nat} {K : zK} {X : zX} (hX : ∀ (n pc : Nat) (ls : zLS) (st : List zV) (M : zM), zrun (tb_X8_hangs kd K) [] n X pc ls st M → X pc ls st M) {c : Int32} {i : Int32} {y : Int32} {M : zM} (hk0 : kd 9 = 8) (h : ∃ a1 : Sk, (RpF (M.1 9 1) a1) ∧ ∀ v1 : Int32, (v1 = zp ((sk_at a1 c.toInt i.toInt).isSome = true)) → ((v1 = 0) → ∀ v2 : Int32, (v2 = (-2 : Int32)) → ∀ M2 : zM, (M2 = zmw M 9 4 (upd (M.1 9 4) 0 (M.1 9 4 0 + 1))) → K (some (zI (v2))) M2) ∧ ((¬ v1 = 0) → ∀ v3 : Int32, (v3 = zp (isY y.toInt)) → ((¬ v3 = 0) → ∀ f4 : Nat → Int32, (∀ j9, j9 < 127 → f4 j9 = M.1 9 1 j9) → ∀ M4 : zM, (M4 = zmw M 9 5 f4) → ∃ a5 : Sk, (RpF (M4.1 9 5) a5) ∧ ∃ l5 : Ly, (sk_at a5 c.toInt i.toInt = some l5) ∧ (0 ≤ (1 : Int32).toInt ∧ (1 : Int32).toInt < 5) ∧ ∀ v5 : Int32, (v5.toInt = ly_f l5 (1 : Int32).toInt) → ∃ a6 : Sk, (RpF (M4.1 9 5) a6) ∧ (0 ≤ y.toInt ∧ y.toInt < 1000000) ∧ ∀ f6 : Nat → Int32, ((f6 7).toInt = sk_N a6 v5.toInt 1 y.toInt ∧ (f6 8).toInt = sk_N a6 v5.toInt 0 y.toInt ∧ ∀ j9, j9 ≠ 7 → j9 ≠ 8 → f6 j9 = M4.1 9 0 j9) → ∀ M6 : zM, (M6 = zmw M4 9 0 f6) → ∃ a7 : Sk, (RpF (M6.1 9 5) a7) ∧ ∃ l7 : Ly, (sk_at a7 c.toInt i.toInt = some l7) ∧ (0 ≤ (2 : Int32).toInt ∧ (2 : Int32).toInt < 5) ∧ ∀ v7 : Int32, (v7.toInt = ly_f l7 (2 : Int32).toInt) → ((¬ v7 = (1 : Int32)) → ((¬ (M6.1 9 0 8) = (1 : Int32)) → K (some (zI ((0 : Int32)))) M6) ∧ (((M6.1 9 0 8) = (1 : Int32)) → ∃ a8 : Sk, (RpF (M6.1 9 5) a8) ∧ (¬ sk_at a8 c.toInt i.toInt = none) ∧ (0 ≤ y.toInt ∧ y.toInt < 1000000) ∧ ∀ v8 : Int32, (v8 = zp (sk_bd a8 c.toInt i.toInt y.toInt = true)) → ((v8 = 0) → K (some (zI ((0 : Int32)))) M6) ∧ ((¬ v8 = 0) → ∃ a9 : Sk, (RpF (M6.1 9 5) a9) ∧ ∃ l9 : Ly, (sk_at a9 c.toInt i.toInt = some l9) ∧ (0 ≤ (1 : Int32).toInt ∧ (1 : Int32).toInt < 5) ∧ ∀ v9 : Int32, (v9.toInt = ly_f l9 (1 : Int32).toInt) → K (some (zI ((1 : Int32) <<< (v9 &&& 31)))) M6))) ∧ ((v7 = (1 : Int32)) → ((¬ (M6.1 9 0 7) = (1 : Int32)) → K (some (zI ((0 : Int32)))) M6) ∧ (((M6.1 9 0 7) = (1 : Int32)) → ∃ a10 : Sk, (RpF (M6.1 9 5) a10) ∧ (¬ sk_at a10 c.toInt i.toInt = none) ∧ (0 ≤ y.toInt ∧ y.toInt < 1000000) ∧ ∀ v10 : Int32, (v10 = zp (sk_bd a10 c.toInt i.toInt y.toInt = true)) → ((v10 = 0) → K (some (zI ((0 : Int32)))) M6) ∧ ((¬ v10 = 0) → ∃ a11 : Sk, (RpF (M6.1 9 5) a11) ∧ ∃ l11 : Ly, (sk_at a11 c.toInt i.toInt = some l11) ∧ (0 ≤ (1 : Int32).toInt ∧ (1 : Int32).toInt < 5) ∧ ∀ v11 : Int32, (v11.toInt = ly_f l11 (1 : Int32).toInt) → K (some (zI ((1 : Int32) <<< (v11 &&& 31)))) M6)))) ∧ ((v3 = 0) → ∀ v12 : Int32, (v12 = (-2 : Int32)) → ∀ M12 : zM, (M12 = zmw M 9 4 (upd (M.1 9 4) 0 (M.1 9 4 0 + 1))) → K (some (zI (v12))) M12))) : X 0 [some (zR 9 0), some (zI (c)), some (zI (i)), some (zI (y)), none] [] M := hX 48 0 _ [] M (show (kd 9 = 8) ∧ ∃ a1 : Sk, (RpF (M.1 9 1) a1) ∧ ∀ v1 : Int32, (v1 = zp ((sk_at a1 c.toInt i.toInt).isSome = true)) → ((v1 = 0) → (kd 9 = 8) ∧ ∀ v2 : Int32, (v2 = (-2 : Int32)) → ∀ M2 : zM, (M2 = zmw M 9 4 (upd (M.1 9 4) 0 (M.1 9 4 0 + 1))) → K (some (zI (v2))) M2) ∧ ((¬ v1 = 0) → ∀ v3 : Int32, (v3 = zp (isY y.toInt)) → ((¬ v3 = 0) → (kd 9 = 8) ∧ ∀ f4 : Nat → Int32, (∀ j9, j9 < 127 → f4 j9 = M.1 9 1 j9) → ∀ M4 : zM, (M4 = zmw M 9 5 f4) → (kd 9 = 8) ∧ ∃ a5 : Sk, (RpF (M4.1 9 5) a5) ∧ ∃ l5 : Ly, (sk_at a5 c.toInt i.toInt = some l5) ∧ (0 ≤ (1 : Int32).toInt ∧ (1 : Int32).toInt < 5) ∧ ∀ v5 : Int32, (v5.toInt = ly_f l5 (1 : Int32).toInt) → (kd 9 = 8) ∧ ∃ a6 : Sk, (RpF (M4.1 9 5) a6) ∧ (0 ≤ y.toInt ∧ y.toInt < 1000000) ∧ ∀ f6 : Nat → Int32, ((f6 7).toInt = sk_N a6 v5.toInt 1 y.toInt ∧ (f6 8).toInt = sk_N a6 v5.toInt 0 y.toInt ∧ ∀ j9, j9 ≠ 7 → j9 ≠ 8 → f6 j9 = M4.1 9 0 j9) → ∀ M6 : zM, (M6 = zmw M4 9 0 f6) → (kd 9 = 8) ∧ ∃ a7 : Sk, (RpF (M6.1 9 5) a7) ∧ ∃ l7 : Ly, (sk_at a7 c.toInt i.toInt = some l7) ∧ (0 ≤ (2 : Int32).toInt ∧ (2 : Int32).toInt < 5) ∧ ∀ v7 : Int32, (v7.toInt = ly_f l7 (2 : Int32).toInt) → ((¬ v7 = (1 : Int32)) → (kd 9 = 8) ∧ ((¬ (M6.1 9 0 8) = (1 : Int32)) → K (some (zI ((0 : Int32)))) M6) ∧ (((M6.1 9 0 8) = (1 : Int32)) → (kd 9 = 8) ∧ ∃ a8 : Sk, (RpF (M6.1 9 5) a8) ∧ (¬ sk_at a8 c.toInt i.toInt = none) ∧ (0 ≤ y.toInt ∧ y.toInt < 1000000) ∧ ∀ v8 : Int32, (v8 = zp (sk_bd a8 c.toInt i.toInt y.toInt = true)) → ((v8 = 0) → K (some (zI ((0 : Int32)))) M6) ∧ ((¬ v8 = 0) → (kd 9 = 8) ∧ ∃ a9 : Sk, (RpF (M6.1 9 5) a9) ∧ ∃ l9 : Ly, (sk_at a9 c.toInt i.toInt = some l9) ∧ (0 ≤ (1 : Int32).toInt ∧ (1 : Int32).toInt < 5) ∧ ∀ v9 : Int32, (v9.toInt = ly_f l9 (1 : Int32).toInt) → K (some (zI ((1 : Int32) <<< (v9 &&& 31)))) M6))) ∧ ((v7 = (1 : Int32)) → (kd 9 = 8) ∧ ((¬ (M6.1 9 0 7) = (1 : Int32)) → K (some (zI ((0 : Int32)))) M6) ∧ (((M6.1 9 0 7) = (1 : Int32)) → (kd 9 = 8) ∧ ∃ a10 : Sk, (RpF (M6.1 9 5) a10) ∧ (¬ sk_at a10 c.toInt i.toInt = none) ∧ (0 ≤ y.toInt ∧ y.toInt < 1000000) ∧ ∀ v10 : Int32, (v10 = zp (sk_bd a10 c.toInt i.toInt y.toInt = true)) → ((v10 = 0) → K (some (zI ((0 : Int32)))) M6) ∧ ((¬ v10 = 0) → (kd 9 = 8) ∧ ∃ a11 : Sk, (RpF (M6.1 9 5) a11) ∧ ∃ l11 : Ly, (sk_at a11 c.toInt i.toInt = some l11) ∧ (0 ≤ (1 : Int32).toInt ∧ (1 : Int32).toInt < 5) ∧ ∀ v11 : Int32, (v11.toInt = ly_f l11 (1 : Int32).toInt) → K (some (zI ((1 : Int32) <<< (v11 &&& 31)))) M6)))) ∧ ((v3 = 0) → (kd 9 = 8) ∧ ∀ v12 : Int32, (v12 = (-2 : Int32)) → ∀ M12 : zM, (M12 = zmw M 9 4 (upd (M.1 9 4) 0 (M.1 9 4 0 + 1))) → K (some (zI (v12))) M12)) from ⟨hk0, h.elim (fun a1 h => ⟨a1, ⟨h.1, have h := h.2; fun v1 => have h := h v1; fun q => have h := h q; ⟨fun q => have h := h.1 q; ⟨hk0, fun v2 => have h := h v2; fun q => have h := h q; fun M2 => have h := h M2; fun q => have h := h q; h⟩, fun q => have h := h.2 q; fun v3 => have h := h v3; fun q => have h := h q; ⟨fun q => have h := h.1 q; ⟨hk0, fun f4 => have h := h f4; fun q => have h := h q; fun M4 => have h := h M4; fun q => have h := h q; ⟨hk0, h.elim (fun a5 h => ⟨a5, ⟨h.1, have h := h.2; h.elim (fun l5 h => ⟨l5, ⟨h.1, have h := h.2; ⟨h.1, have h := h.2; fun v5 => have h := h v5; fun q => have h := h q; ⟨hk0, h.elim (fun a6 h => ⟨a6, ⟨h.1, have h := h.2; ⟨h.1, have h := h.2; fun f6 => have h := h f6; fun q => have h := h q; fun M6 => have h := h M6; fun q => have h := h q; ⟨hk0, h.elim (fun a7 h => ⟨a7, ⟨h.1, have h := h.2; h.elim (fun l7 h => ⟨l7, ⟨h.1, have h := h.2; ⟨h.1, have h := h.2; fun v7 => have h := h v7; fun q => have h := h q; ⟨fun q => have h := h.1 q; ⟨hk0, ⟨fun q => have h := h.1 q; h, fun q => have h := h.2 q; ⟨hk0, h.elim (fun a8 h => ⟨a8, ⟨h.1, have h := h.2; ⟨h.1, have h := h.2; ⟨h.1, have h := h.2; fun v8 => have h := h v8; fun q => have h := h q; ⟨fun q => have h := h.1 q; h, fun q => have h := h.2 q; ⟨hk0, h.elim (fun a9 h => ⟨a9, ⟨h.1, have h := h.2; h.elim (fun l9 h => ⟨l9, ⟨h.1, have h := h.2; ⟨h.1, have h := h.2; fun v9 => have h := h v9; fun q => have h := h q; h⟩⟩⟩)⟩⟩)⟩⟩⟩⟩⟩⟩)⟩⟩⟩, fun q => have h := h.2 q; ⟨hk0, ⟨fun q => have h := h.1 q; h, fun q => have h := h.2 q; ⟨hk0, h.elim (fun a10 h => ⟨a10, ⟨h.1, have h := h.2; ⟨h.1, have h := h.2; ⟨h.1, have h := h.2; fun v10 => have h := h v10; fun q => have h := h q; ⟨fun q => have h := h.1 q; h, fun q => have h := h.2 q; ⟨hk0, h.elim (fun a11 h => ⟨a11, ⟨h.1, have h := h.2; h.elim (fun l11 h => ⟨l11, ⟨h.1, have h := h.2; ⟨h.1, have h := h.2; fun v11 => have h := h v11; fun q => have h := h q; h⟩⟩⟩)⟩⟩)⟩⟩⟩⟩⟩⟩)⟩⟩⟩⟩⟩⟩⟩)⟩⟩)⟩⟩⟩⟩)⟩⟩⟩⟩)⟩⟩)⟩⟩, fun q => have h := h.2 q; ⟨hk0, fun v12 => have h := h v12; fun q => have h := h q; fun M12 => have h := h M12; fun q => have h := h q; h⟩⟩⟩⟩⟩)⟩)
