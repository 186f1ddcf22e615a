def sp_X8_binds : zSpec := fun kd as M K => match as with
  | [.inr (.inr (.inl (9, 0))), .inl c, .inl i, .inl y] => (kd 9 = 8) ∧ ∃ s : St, (RpM M s) ∧ ∀ v : Int32, (v.toInt = (ev_binds s c.toInt i.toInt y.toInt).1) → ∀ M' : zM, (RpM M' (ev_binds s c.toInt i.toInt y.toInt).2) → (fr0 M M') → K (some (.inl v)) M'
  | _ => False
theorem rv_X8_binds : zrv sp_X8_binds 8 3 := by
  intro kd as M K h
  unfold sp_X8_binds at h
  split at h
  · exact ⟨_, _, rfl, h.1⟩
  · exact h.elim
theorem dd_X8_binds_0 : decode cX8_binds 0 = .ok (.aload_n 0, 1) := by decide +kernel
theorem dd_X8_binds_1 : decode cX8_binds 1 = .ok (.iload_n 1, 1) := by decide +kernel
theorem dd_X8_binds_2 : decode cX8_binds 2 = .ok (.iload_n 2, 1) := by decide +kernel
theorem dd_X8_binds_3 : decode cX8_binds 3 = .ok (.invokevirtual 109, 3) := by decide +kernel
theorem dd_X8_binds_6 : decode cX8_binds 6 = .ok (.ifCond .eq 10, 3) := by decide +kernel
theorem dd_X8_binds_9 : decode cX8_binds 9 = .ok (.iload_n 3, 1) := by decide +kernel
theorem dd_X8_binds_10 : decode cX8_binds 10 = .ok (.invokestatic 142, 3) := by decide +kernel
theorem dd_X8_binds_13 : decode cX8_binds 13 = .ok (.ifCond .ne 10, 3) := by decide +kernel
theorem dd_X8_binds_16 : decode cX8_binds 16 = .ok (.aload_n 0, 1) := by decide +kernel
theorem dd_X8_binds_17 : decode cX8_binds 17 = .ok (.bipush (-2), 2) := by decide +kernel
theorem dd_X8_binds_19 : decode cX8_binds 19 = .ok (.invokevirtual 81, 3) := by decide +kernel
theorem dd_X8_binds_22 : decode cX8_binds 22 = .ok (.ireturn, 1) := by decide +kernel
theorem dd_X8_binds_23 : decode cX8_binds 23 = .ok (.aload_n 0, 1) := by decide +kernel
theorem dd_X8_binds_24 : decode cX8_binds 24 = .ok (.invokevirtual 145, 3) := by decide +kernel
theorem dd_X8_binds_27 : decode cX8_binds 27 = .ok (.aload_n 0, 1) := by decide +kernel
theorem dd_X8_binds_28 : decode cX8_binds 28 = .ok (.iload_n 1, 1) := by decide +kernel
theorem dd_X8_binds_29 : decode cX8_binds 29 = .ok (.iload_n 2, 1) := by decide +kernel
theorem dd_X8_binds_30 : decode cX8_binds 30 = .ok (.iload_n 3, 1) := by decide +kernel
theorem dd_X8_binds_31 : decode cX8_binds 31 = .ok (.invokevirtual 130, 3) := by decide +kernel
theorem dd_X8_binds_34 : decode cX8_binds 34 = .ok (.ifCond .eq 7, 3) := by decide +kernel
theorem dd_X8_binds_37 : decode cX8_binds 37 = .ok (.iconst 1, 1) := by decide +kernel
theorem dd_X8_binds_38 : decode cX8_binds 38 = .ok (.goto 4, 3) := by decide +kernel
theorem dd_X8_binds_41 : decode cX8_binds 41 = .ok (.iconst 0, 1) := by decide +kernel
theorem dd_X8_binds_42 : decode cX8_binds 42 = .ok (.ireturn, 1) := by decide +kernel
def tb_X8_binds (kd : Nat → Nat) (K : zK) : zTab := [(0, zt_aload 0 1), (1, zt_iload 1 2), (2, zt_iload 2 3), (3, zt_call kd sp_X8_isLayer 3 6), (6, zt_if (fun x => x = 0) (fun x => ¬ x = 0) 16 9), (9, zt_iload 3 10), (10, zt_call kd sp_X8_isYear 1 13), (13, zt_if (fun x => ¬ x = 0) (fun x => x = 0) 23 16), (16, zt_aload 0 17), (17, zt_const (zI (-2)) 19), (19, zt_call kd sp_X8_bad 2 22), (22, zt_iret K), (23, zt_aload 0 24), (24, zt_call kd sp_X8_layHand 1 27), (27, zt_aload 0 28), (28, zt_iload 1 29), (29, zt_iload 2 30), (30, zt_iload 3 31), (31, zt_call kd sp_X8_bindsNow 4 34), (34, zt_if (fun x => x = 0) (fun x => ¬ x = 0) 41 37), (37, zt_const (zI 1) 38), (38, zt_goto 42), (41, zt_const (zI 0) 42), (42, zt_iret K)]
set_option maxRecDepth 20000 in
theorem tk_X8_binds (d : Nat) (h_X8_isLayer : zMS 3 yX8_isLayer cX8_isLayer 3 (some .boolean) sp_X8_isLayer) (h_X8_isYear : zMS 2 yX8_isYear cX8_isYear 1 (some .boolean) sp_X8_isYear) (h_X8_bad : zMS 1 yX8_bad cX8_bad 2 (some .int) sp_X8_bad) (h_X8_layHand : zMS 1 yX8_layHand cX8_layHand 2 none sp_X8_layHand) (h_X8_bindsNow : zMS 5 yX8_bindsNow cX8_bindsNow 4 (some .boolean) sp_X8_bindsNow) : zTrue RX8 cX8_binds 4 (some .int) (d + 6) (fun kd K => tb_X8_binds kd K) := by
  intro p l e R s m args below meth c D cy A ad bl Qm K C0 hr hlocks hQ
  obtain ⟨hx, hb, hml, hown, hts, hK, hD, hA0, hN, hE, ⟨hR1, hR2⟩, hc1, hc2⟩ := id C0
  unfold tb_X8_binds
  refine List.forall_mem_cons.mpr ⟨ok_aload_n hx hb rfl dd_X8_binds_0, ?_⟩
  refine List.forall_mem_cons.mpr ⟨ok_iload_n hx hb rfl dd_X8_binds_1, ?_⟩
  refine List.forall_mem_cons.mpr ⟨ok_iload_n hx hb rfl dd_X8_binds_2, ?_⟩
  refine List.forall_mem_cons.mpr ⟨ok_callV (n := 2) zc_X8 rv_X8_isLayer C0 (h_X8_isLayer (d + 5) (by omega)) (by decide) wd_988 wd_985 wd_987 wd_66 wd_107 ⟨rfl, by decide +kernel, by decide +kernel, by decide +kernel⟩ dd_X8_binds_3, ?_⟩
  refine List.forall_mem_cons.mpr ⟨ok_if_eq hx hb dd_X8_binds_6 (by decide), ?_⟩
  refine List.forall_mem_cons.mpr ⟨ok_iload_n hx hb rfl dd_X8_binds_9, ?_⟩
  refine List.forall_mem_cons.mpr ⟨ok_callS (n := 1) C0 (h_X8_isYear (d + 5) (by omega)) (by decide) wd_995 wd_993 wd_994 wd_107 ⟨by decide +kernel, by decide +kernel, by decide +kernel⟩ dd_X8_binds_10, ?_⟩
  refine List.forall_mem_cons.mpr ⟨ok_if_ne hx hb dd_X8_binds_13 (by decide), ?_⟩
  refine List.forall_mem_cons.mpr ⟨ok_aload_n hx hb rfl dd_X8_binds_16, ?_⟩
  refine List.forall_mem_cons.mpr ⟨ok_bipush hx hb dd_X8_binds_17 (by decide), ?_⟩
  refine List.forall_mem_cons.mpr ⟨ok_callV (n := 1) zc_X8 rv_X8_bad C0 (h_X8_bad (d + 5) (by omega)) (by decide) wd_936 wd_933 wd_935 wd_62 wd_107 ⟨rfl, by decide +kernel, by decide +kernel, by decide +kernel⟩ dd_X8_binds_19, ?_⟩
  refine List.forall_mem_cons.mpr ⟨ok_iret hx hb hr hlocks hQ dd_X8_binds_22, ?_⟩
  refine List.forall_mem_cons.mpr ⟨ok_aload_n hx hb rfl dd_X8_binds_23, ?_⟩
  refine List.forall_mem_cons.mpr ⟨ok_callV (n := 0) zc_X8 rv_X8_layHand C0 (h_X8_layHand (d + 5) (by omega)) (by decide) wd_1000 wd_997 wd_999 wd_67 wd_107 ⟨rfl, by decide +kernel, by decide +kernel, by decide +kernel⟩ dd_X8_binds_24, ?_⟩
  refine List.forall_mem_cons.mpr ⟨ok_aload_n hx hb rfl dd_X8_binds_27, ?_⟩
  refine List.forall_mem_cons.mpr ⟨ok_iload_n hx hb rfl dd_X8_binds_28, ?_⟩
  refine List.forall_mem_cons.mpr ⟨ok_iload_n hx hb rfl dd_X8_binds_29, ?_⟩
  refine List.forall_mem_cons.mpr ⟨ok_iload_n hx hb rfl dd_X8_binds_30, ?_⟩
  refine List.forall_mem_cons.mpr ⟨ok_callV (n := 3) zc_X8 rv_X8_bindsNow C0 (h_X8_bindsNow (d + 5) (by omega)) (by decide) wd_1004 wd_1001 wd_1003 wd_68 wd_107 ⟨rfl, by decide +kernel, by decide +kernel, by decide +kernel⟩ dd_X8_binds_31, ?_⟩
  refine List.forall_mem_cons.mpr ⟨ok_if_eq hx hb dd_X8_binds_34 (by decide), ?_⟩
  refine List.forall_mem_cons.mpr ⟨ok_iconst hx hb dd_X8_binds_37 (by decide), ?_⟩
  refine List.forall_mem_cons.mpr ⟨ok_goto hx hb dd_X8_binds_38 (by decide), ?_⟩
  refine List.forall_mem_cons.mpr ⟨ok_iconst hx hb dd_X8_binds_41 (by decide), ?_⟩
  refine List.forall_mem_cons.mpr ⟨ok_iret hx hb hr hlocks hQ dd_X8_binds_42, ?_⟩
  exact fun _ h => absurd h List.not_mem_nil
set_option maxRecDepth 100000 in
theorem vc_X8_binds_0 {kd : Nat → Nat} {K : zK} {X : zX} (hX : ∀ (n pc : Nat) (ls : zLS) (st : List zV) (M : zM), zrun (tb_X8_binds kd K) [] n X pc ls st M → X pc ls st M) {c : Int32} {i : Int32} {y : Int32} {M : zM} (hk0 : kd 9 = 8) (h : ∃ a1 : Sk, (RpF (M.1 9 1) a1) ∧ ∀ v1 : Int32, (v1 = zp ((sk_at a1 c.toInt i.toInt).isSome = true)) → ((v1 = 0) → ∀ v2 : Int32, (v2 = (-2 : Int32)) → ∀ M2 : zM, (M2 = zmw M 9 4 (upd (M.1 9 4) 0 (M.1 9 4 0 + 1))) → K (some (zI (v2))) M2) ∧ ((¬ v1 = 0) → ∀ v3 : Int32, (v3 = zp (isY y.toInt)) → ((¬ v3 = 0) → ∀ f4 : Nat → Int32, (∀ j9, j9 < 127 → f4 j9 = M.1 9 1 j9) → ∀ M4 : zM, (M4 = zmw M 9 5 f4) → ∃ a5 : Sk, (RpF (M4.1 9 5) a5) ∧ (¬ sk_at a5 c.toInt i.toInt = none) ∧ (0 ≤ y.toInt ∧ y.toInt < 1000000) ∧ ∀ v5 : Int32, (v5 = zp (sk_bd a5 c.toInt i.toInt y.toInt = true)) → ((v5 = 0) → K (some (zI ((0 : Int32)))) M4) ∧ ((¬ v5 = 0) → K (some (zI ((1 : Int32)))) M4)) ∧ ((v3 = 0) → ∀ v6 : Int32, (v6 = (-2 : Int32)) → ∀ M6 : zM, (M6 = zmw M 9 4 (upd (M.1 9 4) 0 (M.1 9 4 0 + 1))) → K (some (zI (v6))) M6))) : X 0 [some (zR 9 0), some (zI (c)), some (zI (i)), some (zI (y))] [] M := hX 20 0 _ [] M (show (kd 9 = 8) ∧ ∃ a1 : Sk, (RpF (M.1 9 1) a1) ∧ ∀ v1 : Int32, (v1 = zp ((sk_at a1 c.toInt i.toInt).isSome = true)) → ((v1 = 0) → (kd 9 = 8) ∧ ∀ v2 : Int32, (v2 = (-2 : Int32)) → ∀ M2 : zM, (M2 = zmw M 9 4 (upd (M.1 9 4) 0 (M.1 9 4 0 + 1))) → K (some (zI (v2))) M2) ∧ ((¬ v1 = 0) → ∀ v3 : Int32, (v3 = zp (isY y.toInt)) → ((¬ v3 = 0) → (kd 9 = 8) ∧ ∀ f4 : Nat → Int32, (∀ j9, j9 < 127 → f4 j9 = M.1 9 1 j9) → ∀ M4 : zM, (M4 = zmw M 9 5 f4) → (kd 9 = 8) ∧ ∃ a5 : Sk, (RpF (M4.1 9 5) a5) ∧ (¬ sk_at a5 c.toInt i.toInt = none) ∧ (0 ≤ y.toInt ∧ y.toInt < 1000000) ∧ ∀ v5 : Int32, (v5 = zp (sk_bd a5 c.toInt i.toInt y.toInt = true)) → ((v5 = 0) → K (some (zI ((0 : Int32)))) M4) ∧ ((¬ v5 = 0) → K (some (zI ((1 : Int32)))) M4)) ∧ ((v3 = 0) → (kd 9 = 8) ∧ ∀ v6 : Int32, (v6 = (-2 : Int32)) → ∀ M6 : zM, (M6 = zmw M 9 4 (upd (M.1 9 4) 0 (M.1 9 4 0 + 1))) → K (some (zI (v6))) M6)) from ⟨hk0, h.elim (fun a1 h => ⟨a1, ⟨h.1, have h := h.2; fun v1 => have h := h v1; fun q => have h := h q; ⟨fun q => have h := h.1 q; ⟨hk0, fun v2 => have h := h v2; fun q => have h := h q; fun M2 => have h := h M2; fun q => have h := h q; h⟩, fun q => have h := h.2 q; fun v3 => have h := h v3; fun q => have h := h q; ⟨fun q => have h := h.1 q; ⟨hk0, fun f4 => have h := h f4; fun q => have h := h q; fun M4 => have h := h M4; fun q => have h := h q; ⟨hk0, h.elim (fun a5 h => ⟨a5, ⟨h.1, have h := h.2; ⟨h.1, have h := h.2; ⟨h.1, have h := h.2; fun v5 => have h := h v5; fun q => have h := h q; ⟨fun q => have h := h.1 q; h, fun q => have h := h.2 q; h⟩⟩⟩⟩⟩)⟩⟩, fun q => have h := h.2 q; ⟨hk0, fun v6 => have h := h v6; fun q => have h := h q; fun M6 => have h := h M6; fun q => have h := h q; h⟩⟩⟩⟩⟩)⟩)
def sp_X8_rule : zSpec := fun kd as M K => match as with
  | [.inr (.inr (.inl (9, 0))), .inl g, .inl y] => (kd 9 = 8) ∧ ∃ s : St, (RpM M s) ∧ ∀ v : Int32, (v.toInt = (ev_rule s g.toInt y.toInt).1) → ∀ M' : zM, (RpM M' (ev_rule s g.toInt y.toInt).2) → (fr0 M M') → K (some (.inl v)) M'
  | _ => False
theorem rv_X8_rule : zrv sp_X8_rule 8 2 := by
  intro kd as M K h
  unfold sp_X8_rule at h
  split at h
  · exact ⟨_, _, rfl, h.1⟩
  · exact h.elim
theorem dd_X8_rule_0 : decode cX8_rule 0 = .ok (.iload_n 1, 1) := by decide +kernel
theorem dd_X8_rule_1 : decode cX8_rule 1 = .ok (.invokestatic 78, 3) := by decide +kernel
theorem dd_X8_rule_4 : decode cX8_rule 4 = .ok (.ifCond .eq 10, 3) := by decide +kernel
theorem dd_X8_rule_7 : decode cX8_rule 7 = .ok (.iload_n 2, 1) := by decide +kernel
theorem dd_X8_rule_8 : decode cX8_rule 8 = .ok (.invokestatic 142, 3) := by decide +kernel
theorem dd_X8_rule_11 : decode cX8_rule 11 = .ok (.ifCond .ne 10, 3) := by decide +kernel
theorem dd_X8_rule_14 : decode cX8_rule 14 = .ok (.aload_n 0, 1) := by decide +kernel
theorem dd_X8_rule_15 : decode cX8_rule 15 = .ok (.bipush (-2), 2) := by decide +kernel
theorem dd_X8_rule_17 : decode cX8_rule 17 = .ok (.invokevirtual 81, 3) := by decide +kernel
theorem dd_X8_rule_20 : decode cX8_rule 20 = .ok (.ireturn, 1) := by decide +kernel
theorem dd_X8_rule_21 : decode cX8_rule 21 = .ok (.aload_n 0, 1) := by decide +kernel
theorem dd_X8_rule_22 : decode cX8_rule 22 = .ok (.invokevirtual 145, 3) := by decide +kernel
theorem dd_X8_rule_25 : decode cX8_rule 25 = .ok (.aload_n 0, 1) := by decide +kernel
theorem dd_X8_rule_26 : decode cX8_rule 26 = .ok (.iload_n 1, 1) := by decide +kernel
theorem dd_X8_rule_27 : decode cX8_rule 27 = .ok (.iload_n 2, 1) := by decide +kernel
theorem dd_X8_rule_28 : decode cX8_rule 28 = .ok (.invokevirtual 138, 3) := by decide +kernel
theorem dd_X8_rule_31 : decode cX8_rule 31 = .ok (.ireturn, 1) := by decide +kernel
def tb_X8_rule (kd : Nat → Nat) (K : zK) : zTab := [(0, zt_iload 1 1), (1, zt_call kd sp_X8_isThing 1 4), (4, zt_if (fun x => x = 0) (fun x => ¬ x = 0) 14 7), (7, zt_iload 2 8), (8, zt_call kd sp_X8_isYear 1 11), (11, zt_if (fun x => ¬ x = 0) (fun x => x = 0) 21 14), (14, zt_aload 0 15), (15, zt_const (zI (-2)) 17), (17, zt_call kd sp_X8_bad 2 20), (20, zt_iret K), (21, zt_aload 0 22), (22, zt_call kd sp_X8_layHand 1 25), (25, zt_aload 0 26), (26, zt_iload 1 27), (27, zt_iload 2 28), (28, zt_call kd sp_X8_ruleOf 3 31), (31, zt_iret K)]
set_option maxRecDepth 20000 in
theorem tk_X8_rule (d : Nat) (h_X8_isThing : zMS 2 yX8_isThing cX8_isThing 1 (some .boolean) sp_X8_isThing) (h_X8_isYear : zMS 2 yX8_isYear cX8_isYear 1 (some .boolean) sp_X8_isYear) (h_X8_bad : zMS 1 yX8_bad cX8_bad 2 (some .int) sp_X8_bad) (h_X8_layHand : zMS 1 yX8_layHand cX8_layHand 2 none sp_X8_layHand) (h_X8_ruleOf : zMS 7 yX8_ruleOf cX8_ruleOf 3 (some .int) sp_X8_ruleOf) : zTrue RX8 cX8_rule 3 (some .int) (d + 8) (fun kd K => tb_X8_rule kd K) := by
  intro p l e R s m args below meth c D cy A ad bl Qm K C0 hr hlocks hQ
  obtain ⟨hx, hb, hml, hown, hts, hK, hD, hA0, hN, hE, ⟨hR1, hR2⟩, hc1, hc2⟩ := id C0
  unfold tb_X8_rule
  refine List.forall_mem_cons.mpr ⟨ok_iload_n hx hb rfl dd_X8_rule_0, ?_⟩
  refine List.forall_mem_cons.mpr ⟨ok_callS (n := 1) C0 (h_X8_isThing (d + 7) (by omega)) (by decide) wd_931 wd_929 wd_930 wd_107 ⟨by decide +kernel, by decide +kernel, by decide +kernel⟩ dd_X8_rule_1, ?_⟩
  refine List.forall_mem_cons.mpr ⟨ok_if_eq hx hb dd_X8_rule_4 (by decide), ?_⟩
  refine List.forall_mem_cons.mpr ⟨ok_iload_n hx hb rfl dd_X8_rule_7, ?_⟩
  refine List.forall_mem_cons.mpr ⟨ok_callS (n := 1) C0 (h_X8_isYear (d + 7) (by omega)) (by decide) wd_995 wd_993 wd_994 wd_107 ⟨by decide +kernel, by decide +kernel, by decide +kernel⟩ dd_X8_rule_8, ?_⟩
  refine List.forall_mem_cons.mpr ⟨ok_if_ne hx hb dd_X8_rule_11 (by decide), ?_⟩
  refine List.forall_mem_cons.mpr ⟨ok_aload_n hx hb rfl dd_X8_rule_14, ?_⟩
  refine List.forall_mem_cons.mpr ⟨ok_bipush hx hb dd_X8_rule_15 (by decide), ?_⟩
  refine List.forall_mem_cons.mpr ⟨ok_callV (n := 1) zc_X8 rv_X8_bad C0 (h_X8_bad (d + 7) (by omega)) (by decide) wd_936 wd_933 wd_935 wd_62 wd_107 ⟨rfl, by decide +kernel, by decide +kernel, by decide +kernel⟩ dd_X8_rule_17, ?_⟩
  refine List.forall_mem_cons.mpr ⟨ok_iret hx hb hr hlocks hQ dd_X8_rule_20, ?_⟩
  refine List.forall_mem_cons.mpr ⟨ok_aload_n hx hb rfl dd_X8_rule_21, ?_⟩
  refine List.forall_mem_cons.mpr ⟨ok_callV (n := 0) zc_X8 rv_X8_layHand C0 (h_X8_layHand (d + 7) (by omega)) (by decide) wd_1000 wd_997 wd_999 wd_67 wd_107 ⟨rfl, by decide +kernel, by decide +kernel, by decide +kernel⟩ dd_X8_rule_22, ?_⟩
  refine List.forall_mem_cons.mpr ⟨ok_aload_n hx hb rfl dd_X8_rule_25, ?_⟩
  refine List.forall_mem_cons.mpr ⟨ok_iload_n hx hb rfl dd_X8_rule_26, ?_⟩
  refine List.forall_mem_cons.mpr ⟨ok_iload_n hx hb rfl dd_X8_rule_27, ?_⟩
  refine List.forall_mem_cons.mpr ⟨ok_callV (n := 2) zc_X8 rv_X8_ruleOf C0 (h_X8_ruleOf (d + 7) (by omega)) (by decide) wd_1024 wd_1021 wd_1023 wd_72 wd_107 ⟨rfl, by decide +kernel, by decide +kernel, by decide +kernel⟩ dd_X8_rule_28, ?_⟩
  refine List.forall_mem_cons.mpr ⟨ok_iret hx hb hr hlocks hQ dd_X8_rule_31, ?_⟩
  exact fun _ h => absurd h List.not_mem_nil
set_option maxRecDepth 100000 in
theorem vc_X8_rule_0 {kd : Nat → Nat} {K : zK} {X : zX} (hX : ∀ (n pc : Nat) (ls : zLS) (st : List zV) (M : zM), zrun (tb_X8_rule kd K) [] n X pc ls st M → X pc ls st M) {g : Int32} {y : Int32} {M : zM} (hk0 : kd 9 = 8) (h : ∀ v1 : Int32, (v1 = zp (isT g.toInt)) → ((v1 = 0) → ∀ v2 : Int32, (v2 = (-2 : Int32)) → ∀ M2 : zM, (M2 = zmw M 9 4 (upd (M.1 9 4) 0 (M.1 9 4 0 + 1))) → K (some (zI (v2))) M2) ∧ ((¬ v1 = 0) → ∀ v3 : Int32, (v3 = zp (isY y.toInt)) → ((¬ v3 = 0) → ∀ f4 : Nat → Int32, (∀ j9, j9 < 127 → f4 j9 = M.1 9 1 j9) → ∀ M4 : zM, (M4 = zmw M 9 5 f4) → ∃ a5 : Sk, (RpF (M4.1 9 5) a5) ∧ (0 ≤ y.toInt ∧ y.toInt < 1000000) ∧ ∀ v5 : Int32, (v5.toInt = sk_law a5 g.toInt y.toInt) → ∀ f5 : Nat → Int32, ((f5 7).toInt = sk_N a5 g.toInt 1 y.toInt ∧ (f5 8).toInt = sk_N a5 g.toInt 0 y.toInt ∧ ∀ j9, j9 ≠ 7 → j9 ≠ 8 → f5 j9 = M4.1 9 0 j9) → ∀ M5 : zM, (M5 = zmw M4 9 0 f5) → K (some (zI (v5))) M5) ∧ ((v3 = 0) → ∀ v6 : Int32, (v6 = (-2 : Int32)) → ∀ M6 : zM, (M6 = zmw M 9 4 (upd (M.1 9 4) 0 (M.1 9 4 0 + 1))) → K (some (zI (v6))) M6))) : X 0 [some (zR 9 0), some (zI (g)), some (zI (y))] [] M := hX 14 0 _ [] M (show ∀ v1 : Int32, (v1 = zp (isT g.toInt)) → ((v1 = 0) → (kd 9 = 8) ∧ ∀ v2 : Int32, (v2 = (-2 : Int32)) → ∀ M2 : zM, (M2 = zmw M 9 4 (upd (M.1 9 4) 0 (M.1 9 4 0 + 1))) → K (some (zI (v2))) M2) ∧ ((¬ v1 = 0) → ∀ v3 : Int32, (v3 = zp (isY y.toInt)) → ((¬ v3 = 0) → (kd 9 = 8) ∧ ∀ f4 : Nat → Int32, (∀ j9, j9 < 127 → f4 j9 = M.1 9 1 j9) → ∀ M4 : zM, (M4 = zmw M 9 5 f4) → (kd 9 = 8) ∧ ∃ a5 : Sk, (RpF (M4.1 9 5) a5) ∧ (0 ≤ y.toInt ∧ y.toInt < 1000000) ∧ ∀ v5 : Int32, (v5.toInt = sk_law a5 g.toInt y.toInt) → ∀ f5 : Nat → Int32, ((f5 7).toInt = sk_N a5 g.toInt 1 y.toInt ∧ (f5 8).toInt = sk_N a5 g.toInt 0 y.toInt ∧ ∀ j9, j9 ≠ 7 → j9 ≠ 8 → f5 j9 = M4.1 9 0 j9) → ∀ M5 : zM, (M5 = zmw M4 9 0 f5) → K (some (zI (v5))) M5) ∧ ((v3 = 0) → (kd 9 = 8) ∧ ∀ v6 : Int32, (v6 = (-2 : Int32)) → ∀ M6 : zM, (M6 = zmw M 9 4 (upd (M.1 9 4) 0 (M.1 9 4 0 + 1))) → K (some (zI (v6))) M6)) from fun v1 => have h := h v1; fun q => have h := h q; ⟨fun q => have h := h.1 q; ⟨hk0, fun v2 => have h := h v2; fun q => have h := h q; fun M2 => have h := h M2; fun q => have h := h q; h⟩, fun q => have h := h.2 q; fun v3 => have h := h v3; fun q => have h := h q; ⟨fun q => have h := h.1 q; ⟨hk0, fun f4 => have h := h f4; fun q => have h := h q; fun M4 => have h := h M4; fun q => have h := h q; ⟨hk0, h.elim (fun a5 h => ⟨a5, ⟨h.1, have h := h.2; ⟨h.1, have h := h.2; fun v5 => have h := h v5; fun q => have h := h q; fun f5 => have h := h f5; fun q => have h := h q; fun M5 => have h := h M5; fun q => have h := h q; h⟩⟩⟩)⟩⟩, fun q => have h := h.2 q; ⟨hk0, fun v6 => have h := h v6; fun q => have h := h q; fun M6 => have h := h M6; fun q => have h := h q; h⟩⟩⟩)
def sp_X8_quarrel : zSpec := fun kd as M K => match as with
  | [.inr (.inr (.inl (9, 0))), .inl g] => (kd 9 = 8) ∧ ∃ s : St, (RpM M s) ∧ ∀ v : Int32, (er_quarrel s g.toInt v.toInt) → ∀ M' : zM, (RpM M' (es_quarrel s g.toInt)) → (fr0 M M') → K (some (.inl v)) M'
  | _ => False
theorem rv_X8_quarrel : zrv sp_X8_quarrel 8 1 := by
  intro kd as M K h
  unfold sp_X8_quarrel at h
  split at h
  · exact ⟨_, _, rfl, h.1⟩
  · exact h.elim
theorem dd_X8_quarrel_0 : decode cX8_quarrel 0 = .ok (.iload_n 1, 1) := by decide +kernel
theorem dd_X8_quarrel_1 : decode cX8_quarrel 1 = .ok (.invokestatic 78, 3) := by decide +kernel
theorem dd_X8_quarrel_4 : decode cX8_quarrel 4 = .ok (.ifCond .ne 10, 3) := by decide +kernel
theorem dd_X8_quarrel_7 : decode cX8_quarrel 7 = .ok (.aload_n 0, 1) := by decide +kernel
theorem dd_X8_quarrel_8 : decode cX8_quarrel 8 = .ok (.bipush (-2), 2) := by decide +kernel
theorem dd_X8_quarrel_10 : decode cX8_quarrel 10 = .ok (.invokevirtual 81, 3) := by decide +kernel
theorem dd_X8_quarrel_13 : decode cX8_quarrel 13 = .ok (.ireturn, 1) := by decide +kernel
theorem dd_X8_quarrel_14 : decode cX8_quarrel 14 = .ok (.aload_n 0, 1) := by decide +kernel
theorem dd_X8_quarrel_15 : decode cX8_quarrel 15 = .ok (.invokevirtual 145, 3) := by decide +kernel
theorem dd_X8_quarrel_18 : decode cX8_quarrel 18 = .ok (.iconst 0, 1) := by decide +kernel
theorem dd_X8_quarrel_19 : decode cX8_quarrel 19 = .ok (.istore_n 2, 1) := by decide +kernel
theorem dd_X8_quarrel_20 : decode cX8_quarrel 20 = .ok (.iload_n 2, 1) := by decide +kernel
theorem dd_X8_quarrel_21 : decode cX8_quarrel 21 = .ok (.sipush 999, 3) := by decide +kernel
theorem dd_X8_quarrel_24 : decode cX8_quarrel 24 = .ok (.if_icmp .gt 21, 3) := by decide +kernel
theorem dd_X8_quarrel_27 : decode cX8_quarrel 27 = .ok (.aload_n 0, 1) := by decide +kernel
theorem dd_X8_quarrel_28 : decode cX8_quarrel 28 = .ok (.iload_n 1, 1) := by decide +kernel
theorem dd_X8_quarrel_29 : decode cX8_quarrel 29 = .ok (.iload_n 2, 1) := by decide +kernel
theorem dd_X8_quarrel_30 : decode cX8_quarrel 30 = .ok (.invokevirtual 138, 3) := by decide +kernel
theorem dd_X8_quarrel_33 : decode cX8_quarrel 33 = .ok (.iconst 3, 1) := by decide +kernel
theorem dd_X8_quarrel_34 : decode cX8_quarrel 34 = .ok (.if_icmp .ne 5, 3) := by decide +kernel
theorem dd_X8_quarrel_37 : decode cX8_quarrel 37 = .ok (.iload_n 2, 1) := by decide +kernel
theorem dd_X8_quarrel_38 : decode cX8_quarrel 38 = .ok (.ireturn, 1) := by decide +kernel
theorem dd_X8_quarrel_39 : decode cX8_quarrel 39 = .ok (.iinc 2 1, 3) := by decide +kernel
theorem dd_X8_quarrel_42 : decode cX8_quarrel 42 = .ok (.goto (-22), 3) := by decide +kernel
theorem dd_X8_quarrel_45 : decode cX8_quarrel 45 = .ok (.iconst (-1), 1) := by decide +kernel
theorem dd_X8_quarrel_46 : decode cX8_quarrel 46 = .ok (.ireturn, 1) := by decide +kernel
def tb_X8_quarrel (kd : Nat → Nat) (K : zK) : zTab := [(0, zt_iload 1 1), (1, zt_call kd sp_X8_isThing 1 4), (4, zt_if (fun x => ¬ x = 0) (fun x => x = 0) 14 7), (7, zt_aload 0 8), (8, zt_const (zI (-2)) 10), (10, zt_call kd sp_X8_bad 2 13), (13, zt_iret K), (14, zt_aload 0 15), (15, zt_call kd sp_X8_layHand 1 18), (18, zt_const (zI 0) 19), (19, zt_istore 2 20), (20, zt_iload 2 21), (21, zt_const (zI 999) 24), (24, zt_icmp (fun x y => y < x) (fun x y => ¬ y < x) 45 27), (27, zt_aload 0 28), (28, zt_iload 1 29), (29, zt_iload 2 30), (30, zt_call kd sp_X8_ruleOf 3 33), (33, zt_const (zI 3) 34), (34, zt_icmp (fun x y => ¬ x = y) (fun x y => x = y) 39 37), (37, zt_iload 2 38), (38, zt_iret K), (39, zt_iinc 2 1 42), (42, zt_goto 20), (45, zt_const (zI (-1)) 46), (46, zt_iret K)]
set_option maxRecDepth 20000 in
theorem tk_X8_quarrel (d : Nat) (h_X8_isThing : zMS 2 yX8_isThing cX8_isThing 1 (some .boolean) sp_X8_isThing) (h_X8_bad : zMS 1 yX8_bad cX8_bad 2 (some .int) sp_X8_bad) (h_X8_layHand : zMS 1 yX8_layHand cX8_layHand 2 none sp_X8_layHand) (h_X8_ruleOf : zMS 7 yX8_ruleOf cX8_ruleOf 3 (some .int) sp_X8_ruleOf) : zTrue RX8 cX8_quarrel 3 (some .int) (d + 8) (fun kd K => tb_X8_quarrel kd K) := by
  intro p l e R s m args below meth c D cy A ad bl Qm K C0 hr hlocks hQ
  obtain ⟨hx, hb, hml, hown, hts, hK, hD, hA0, hN, hE, ⟨hR1, hR2⟩, hc1, hc2⟩ := id C0
  unfold tb_X8_quarrel
  refine List.forall_mem_cons.mpr ⟨ok_iload_n hx hb rfl dd_X8_quarrel_0, ?_⟩
  refine List.forall_mem_cons.mpr ⟨ok_callS (n := 1) C0 (h_X8_isThing (d + 7) (by omega)) (by decide) wd_931 wd_929 wd_930 wd_107 ⟨by decide +kernel, by decide +kernel, by decide +kernel⟩ dd_X8_quarrel_1, ?_⟩
  refine List.forall_mem_cons.mpr ⟨ok_if_ne hx hb dd_X8_quarrel_4 (by decide), ?_⟩
  refine List.forall_mem_cons.mpr ⟨ok_aload_n hx hb rfl dd_X8_quarrel_7, ?_⟩
  refine List.forall_mem_cons.mpr ⟨ok_bipush hx hb dd_X8_quarrel_8 (by decide), ?_⟩
  refine List.forall_mem_cons.mpr ⟨ok_callV (n := 1) zc_X8 rv_X8_bad C0 (h_X8_bad (d + 7) (by omega)) (by decide) wd_936 wd_933 wd_935 wd_62 wd_107 ⟨rfl, by decide +kernel, by decide +kernel, by decide +kernel⟩ dd_X8_quarrel_10, ?_⟩
  refine List.forall_mem_cons.mpr ⟨ok_iret hx hb hr hlocks hQ dd_X8_quarrel_13, ?_⟩
  refine List.forall_mem_cons.mpr ⟨ok_aload_n hx hb rfl dd_X8_quarrel_14, ?_⟩
  refine List.forall_mem_cons.mpr ⟨ok_callV (n := 0) zc_X8 rv_X8_layHand C0 (h_X8_layHand (d + 7) (by omega)) (by decide) wd_1000 wd_997 wd_999 wd_67 wd_107 ⟨rfl, by decide +kernel, by decide +kernel, by decide +kernel⟩ dd_X8_quarrel_15, ?_⟩
  refine List.forall_mem_cons.mpr ⟨ok_iconst hx hb dd_X8_quarrel_18 (by decide), ?_⟩
  refine List.forall_mem_cons.mpr ⟨ok_istore_n hx hb rfl dd_X8_quarrel_19, ?_⟩
  refine List.forall_mem_cons.mpr ⟨ok_iload_n hx hb rfl dd_X8_quarrel_20, ?_⟩
  refine List.forall_mem_cons.mpr ⟨ok_sipush hx hb dd_X8_quarrel_21 (by decide), ?_⟩
  refine List.forall_mem_cons.mpr ⟨ok_icmp_gt hx hb dd_X8_quarrel_24 (by decide), ?_⟩
  refine List.forall_mem_cons.mpr ⟨ok_aload_n hx hb rfl dd_X8_quarrel_27, ?_⟩
  refine List.forall_mem_cons.mpr ⟨ok_iload_n hx hb rfl dd_X8_quarrel_28, ?_⟩
  refine List.forall_mem_cons.mpr ⟨ok_iload_n hx hb rfl dd_X8_quarrel_29, ?_⟩
  refine List.forall_mem_cons.mpr ⟨ok_callV (n := 2) zc_X8 rv_X8_ruleOf C0 (h_X8_ruleOf (d + 7) (by omega)) (by decide) wd_1024 wd_1021 wd_1023 wd_72 wd_107 ⟨rfl, by decide +kernel, by decide +kernel, by decide +kernel⟩ dd_X8_quarrel_30, ?_⟩
  refine List.forall_mem_cons.mpr ⟨ok_iconst hx hb dd_X8_quarrel_33 (by decide), ?_⟩
  refine List.forall_mem_cons.mpr ⟨ok_icmp_ne hx hb dd_X8_quarrel_34 (by decide), ?_⟩
  refine List.forall_mem_cons.mpr ⟨ok_iload_n hx hb rfl dd_X8_quarrel_37, ?_⟩
  refine List.forall_mem_cons.mpr ⟨ok_iret hx hb hr hlocks hQ dd_X8_quarrel_38, ?_⟩
  refine List.forall_mem_cons.mpr ⟨ok_iinc hx hb dd_X8_quarrel_39 (by decide), ?_⟩
  refine List.forall_mem_cons.mpr ⟨ok_goto hx hb dd_X8_quarrel_42 (by decide), ?_⟩
  refine List.forall_mem_cons.mpr ⟨ok_iconst hx hb dd_X8_quarrel_45 (by decide), ?_⟩
  refine List.forall_mem_cons.mpr ⟨ok_iret hx hb hr hlocks hQ dd_X8_quarrel_46, ?_⟩
  exact fun _ h => absurd h List.not_mem_nil
set_option maxRecDepth 100000 in
theorem vc_X8_quarrel_0 {kd : Nat → Nat} {K : zK} {X : zX} (hX : ∀ (n pc : Nat) (ls : zLS) (st : List zV) (M : zM), zrun (tb_X8_quarrel kd K) [(20, [])] n X pc ls st M → X pc ls st M) {g : Int32} {M : zM} (hk0 : kd 9 = 8) (h : ∀ v1 : Int32, (v1 = zp (isT g.toInt)) → ((¬ v1 = 0) → ∀ f2 : Nat → Int32, (∀ j9, j9 < 127 → f2 j9 = M.1 9 1 j9) → ∀ M2 : zM, (M2 = zmw M 9 5 f2) → X 20 [some (zR 9 0), some (zI (g)), some (zI ((0 : Int32)))] [] M2) ∧ ((v1 = 0) → ∀ v3 : Int32, (v3 = (-2 : Int32)) → ∀ M3 : zM, (M3 = zmw M 9 4 (upd (M.1 9 4) 0 (M.1 9 4 0 + 1))) → K (some (zI (v3))) M3)) : X 0 [some (zR 9 0), some (zI (g)), none] [] M := hX 9 0 _ [] M (show ∀ v1 : Int32, (v1 = zp (isT g.toInt)) → ((¬ v1 = 0) → (kd 9 = 8) ∧ ∀ f2 : Nat → Int32, (∀ j9, j9 < 127 → f2 j9 = M.1 9 1 j9) → ∀ M2 : zM, (M2 = zmw M 9 5 f2) → X 20 [some (zR 9 0), some (zI (g)), some (zI ((0 : Int32)))] [] M2) ∧ ((v1 = 0) → (kd 9 = 8) ∧ ∀ v3 : Int32, (v3 = (-2 : Int32)) → ∀ M3 : zM, (M3 = zmw M 9 4 (upd (M.1 9 4) 0 (M.1 9 4 0 + 1))) → K (some (zI (v3))) M3) from fun v1 => have h := h v1; fun q => have h := h q; ⟨fun q => have h := h.1 q; ⟨hk0, fun f2 => have h := h f2; fun q => have h := h q; fun M2 => have h := h M2; fun q => have h := h q; h⟩, fun q => have h := h.2 q; ⟨hk0, fun v3 => have h := h v3; fun q => have h := h q; fun M3 => have h := h M3; fun q => have h := h q; h⟩⟩)
set_option maxRecDepth 100000 in
theorem vc_X8_quarrel_20 {kd : Nat → Nat} {K : zK} {X : zX} (hX : ∀ (n pc : Nat) (ls : zLS) (st : List zV) (M : zM), zrun (tb_X8_quarrel kd K) [(20, [])] n X pc ls st M → X pc ls st M) {g : Int32} {y : Int32} {M : zM} (hk0 : kd 9 = 8) (h : (((999 : Int32) < y) → K (some (zI ((-1 : Int32)))) M) ∧ ((¬ (999 : Int32) < y) → ∃ a1 : Sk, (RpF (M.1 9 5) a1) ∧ (0 ≤ y.toInt ∧ y.toInt < 1000000) ∧ ∀ v1 : Int32, (v1.toInt = sk_law a1 g.toInt y.toInt) → ∀ f1 : Nat → Int32, ((f1 7).toInt = sk_N a1 g.toInt 1 y.toInt ∧ (f1 8).toInt = sk_N a1 g.toInt 0 y.toInt ∧ ∀ j9, j9 ≠ 7 → j9 ≠ 8 → f1 j9 = M.1 9 0 j9) → ∀ M1 : zM, (M1 = zmw M 9 0 f1) → ((¬ v1 = (3 : Int32)) → X 20 [some (zR 9 0), some (zI (g)), some (zI (y + 1))] [] M1) ∧ ((v1 = (3 : Int32)) → K (some (zI (y))) M1))) : X 20 [some (zR 9 0), some (zI (g)), some (zI (y))] [] M := hX 13 20 _ [] M (show (((999 : Int32) < y) → K (some (zI ((-1 : Int32)))) M) ∧ ((¬ (999 : Int32) < y) → (kd 9 = 8) ∧ ∃ a1 : Sk, (RpF (M.1 9 5) a1) ∧ (0 ≤ y.toInt ∧ y.toInt < 1000000) ∧ ∀ v1 : Int32, (v1.toInt = sk_law a1 g.toInt y.toInt) → ∀ f1 : Nat → Int32, ((f1 7).toInt = sk_N a1 g.toInt 1 y.toInt ∧ (f1 8).toInt = sk_N a1 g.toInt 0 y.toInt ∧ ∀ j9, j9 ≠ 7 → j9 ≠ 8 → f1 j9 = M.1 9 0 j9) → ∀ M1 : zM, (M1 = zmw M 9 0 f1) → ((¬ v1 = (3 : Int32)) → X 20 [some (zR 9 0), some (zI (g)), some (zI (y + 1))] [] M1) ∧ ((v1 = (3 : Int32)) → K (some (zI (y))) M1)) from ⟨fun q => have h := h.1 q; h, fun q => have h := h.2 q; ⟨hk0, h.elim (fun a1 h => ⟨a1, ⟨h.1, have h := h.2; ⟨h.1, have h := h.2; fun v1 => have h := h v1; fun q => have h := h q; fun f1 => have h := h f1; fun q => have h := h q; fun M1 => have h := h M1; fun q => have h := h q; ⟨fun q => have h := h.1 q; h, fun q => have h := h.2 q; h⟩⟩⟩⟩)⟩⟩)
