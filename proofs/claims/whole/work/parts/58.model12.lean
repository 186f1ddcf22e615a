def sp_X8_ends : zSpec := fun kd as M K => match as with
  | [.inr (.inr (.inl (9, 0))), .inl c, .inl i] => (kd 9 = 8) ∧ ∃ s : St, (RpM M s) ∧ ∀ v : Int32, (er_ends s c.toInt i.toInt v.toInt) → ∀ M' : zM, (RpM M' (es_ends s c.toInt i.toInt)) → (fr0 M M') → K (some (.inl v)) M'
  | _ => False
theorem rv_X8_ends : zrv sp_X8_ends 8 2 := by
  intro kd as M K h
  unfold sp_X8_ends at h
  split at h
  · exact ⟨_, _, rfl, h.1⟩
  · exact h.elim
theorem dd_X8_ends_0 : decode cX8_ends 0 = .ok (.aload_n 0, 1) := by decide +kernel
theorem dd_X8_ends_1 : decode cX8_ends 1 = .ok (.iload_n 1, 1) := by decide +kernel
theorem dd_X8_ends_2 : decode cX8_ends 2 = .ok (.iload_n 2, 1) := by decide +kernel
theorem dd_X8_ends_3 : decode cX8_ends 3 = .ok (.invokevirtual 109, 3) := by decide +kernel
theorem dd_X8_ends_6 : decode cX8_ends 6 = .ok (.ifCond .ne 10, 3) := by decide +kernel
theorem dd_X8_ends_9 : decode cX8_ends 9 = .ok (.aload_n 0, 1) := by decide +kernel
theorem dd_X8_ends_10 : decode cX8_ends 10 = .ok (.bipush (-2), 2) := by decide +kernel
theorem dd_X8_ends_12 : decode cX8_ends 12 = .ok (.invokevirtual 81, 3) := by decide +kernel
theorem dd_X8_ends_15 : decode cX8_ends 15 = .ok (.ireturn, 1) := by decide +kernel
theorem dd_X8_ends_16 : decode cX8_ends 16 = .ok (.sipush 999, 3) := by decide +kernel
theorem dd_X8_ends_19 : decode cX8_ends 19 = .ok (.istore_n 3, 1) := by decide +kernel
theorem dd_X8_ends_20 : decode cX8_ends 20 = .ok (.aload_n 0, 1) := by decide +kernel
theorem dd_X8_ends_21 : decode cX8_ends 21 = .ok (.invokevirtual 145, 3) := by decide +kernel
theorem dd_X8_ends_24 : decode cX8_ends 24 = .ok (.iload_n 3, 1) := by decide +kernel
theorem dd_X8_ends_25 : decode cX8_ends 25 = .ok (.aload_n 0, 1) := by decide +kernel
theorem dd_X8_ends_26 : decode cX8_ends 26 = .ok (.getfield 7, 3) := by decide +kernel
theorem dd_X8_ends_29 : decode cX8_ends 29 = .ok (.bipush 126, 2) := by decide +kernel
theorem dd_X8_ends_31 : decode cX8_ends 31 = .ok (.iaload, 1) := by decide +kernel
theorem dd_X8_ends_32 : decode cX8_ends 32 = .ok (.if_icmp .lt 19, 3) := by decide +kernel
theorem dd_X8_ends_35 : decode cX8_ends 35 = .ok (.aload_n 0, 1) := by decide +kernel
theorem dd_X8_ends_36 : decode cX8_ends 36 = .ok (.iload_n 1, 1) := by decide +kernel
theorem dd_X8_ends_37 : decode cX8_ends 37 = .ok (.iload_n 2, 1) := by decide +kernel
theorem dd_X8_ends_38 : decode cX8_ends 38 = .ok (.iload_n 3, 1) := by decide +kernel
theorem dd_X8_ends_39 : decode cX8_ends 39 = .ok (.invokevirtual 130, 3) := by decide +kernel
theorem dd_X8_ends_42 : decode cX8_ends 42 = .ok (.ifCond .ne 9, 3) := by decide +kernel
theorem dd_X8_ends_45 : decode cX8_ends 45 = .ok (.iinc 3 (-1), 3) := by decide +kernel
theorem dd_X8_ends_48 : decode cX8_ends 48 = .ok (.goto (-24), 3) := by decide +kernel
theorem dd_X8_ends_51 : decode cX8_ends 51 = .ok (.iload_n 3, 1) := by decide +kernel
theorem dd_X8_ends_52 : decode cX8_ends 52 = .ok (.sipush 999, 3) := by decide +kernel
theorem dd_X8_ends_55 : decode cX8_ends 55 = .ok (.if_icmp .ne 7, 3) := by decide +kernel
theorem dd_X8_ends_58 : decode cX8_ends 58 = .ok (.iconst (-1), 1) := by decide +kernel
theorem dd_X8_ends_59 : decode cX8_ends 59 = .ok (.goto 6, 3) := by decide +kernel
theorem dd_X8_ends_62 : decode cX8_ends 62 = .ok (.iload_n 3, 1) := by decide +kernel
theorem dd_X8_ends_63 : decode cX8_ends 63 = .ok (.iconst 1, 1) := by decide +kernel
theorem dd_X8_ends_64 : decode cX8_ends 64 = .ok (.iadd, 1) := by decide +kernel
theorem dd_X8_ends_65 : decode cX8_ends 65 = .ok (.ireturn, 1) := by decide +kernel
def tb_X8_ends (kd : Nat → Nat) (K : zK) : zTab := [(0, zt_aload 0 1), (1, zt_iload 1 2), (2, zt_iload 2 3), (3, zt_call kd sp_X8_isLayer 3 6), (6, zt_if (fun x => ¬ x = 0) (fun x => x = 0) 16 9), (9, zt_aload 0 10), (10, zt_const (zI (-2)) 12), (12, zt_call kd sp_X8_bad 2 15), (15, zt_iret K), (16, zt_const (zI 999) 19), (19, zt_istore 3 20), (20, zt_aload 0 21), (21, zt_call kd sp_X8_layHand 1 24), (24, zt_iload 3 25), (25, zt_aload 0 26), (26, zt_getR kd 8 0 1 29), (29, zt_const (zI 126) 31), (31, zt_ald kd 0 32), (32, zt_icmp (fun x y => x < y) (fun x y => ¬ x < y) 51 35), (35, zt_aload 0 36), (36, zt_iload 1 37), (37, zt_iload 2 38), (38, zt_iload 3 39), (39, zt_call kd sp_X8_bindsNow 4 42), (42, zt_if (fun x => ¬ x = 0) (fun x => x = 0) 51 45), (45, zt_iinc 3 (-1) 48), (48, zt_goto 24), (51, zt_iload 3 52), (52, zt_const (zI 999) 55), (55, zt_icmp (fun x y => ¬ x = y) (fun x y => x = y) 62 58), (58, zt_const (zI (-1)) 59), (59, zt_goto 65), (62, zt_iload 3 63), (63, zt_const (zI 1) 64), (64, zt_bin (fun x y => x + y) 65), (65, zt_iret K)]
set_option maxRecDepth 20000 in
theorem tk_X8_ends (d : Nat) (h_X8_isLayer : zMS 3 yX8_isLayer cX8_isLayer 3 (some .boolean) sp_X8_isLayer) (h_X8_bad : zMS 1 yX8_bad cX8_bad 2 (some .int) sp_X8_bad) (h_X8_layHand : zMS 1 yX8_layHand cX8_layHand 2 none sp_X8_layHand) (h_X8_bindsNow : zMS 5 yX8_bindsNow cX8_bindsNow 4 (some .boolean) sp_X8_bindsNow) : zTrue RX8 cX8_ends 4 (some .int) (d + 6) (fun kd K => tb_X8_ends kd K) := by
  intro p l e R s m args below meth c D cy A ad bl Qm K C0 hr hlocks hQ
  obtain ⟨hx, hb, hml, hown, hts, hK, hD, hA0, hN, hE, ⟨hR1, hR2⟩, hc1, hc2⟩ := id C0
  unfold tb_X8_ends
  refine List.forall_mem_cons.mpr ⟨ok_aload_n hx hb rfl dd_X8_ends_0, ?_⟩
  refine List.forall_mem_cons.mpr ⟨ok_iload_n hx hb rfl dd_X8_ends_1, ?_⟩
  refine List.forall_mem_cons.mpr ⟨ok_iload_n hx hb rfl dd_X8_ends_2, ?_⟩
  refine List.forall_mem_cons.mpr ⟨ok_callV (n := 2) zc_X8 rv_X8_isLayer C0 (h_X8_isLayer (d + 5) (by omega)) (by decide) wd_988 wd_985 wd_987 wd_66 wd_107 ⟨rfl, by decide +kernel, by decide +kernel, by decide +kernel⟩ dd_X8_ends_3, ?_⟩
  refine List.forall_mem_cons.mpr ⟨ok_if_ne hx hb dd_X8_ends_6 (by decide), ?_⟩
  refine List.forall_mem_cons.mpr ⟨ok_aload_n hx hb rfl dd_X8_ends_9, ?_⟩
  refine List.forall_mem_cons.mpr ⟨ok_bipush hx hb dd_X8_ends_10 (by decide), ?_⟩
  refine List.forall_mem_cons.mpr ⟨ok_callV (n := 1) zc_X8 rv_X8_bad C0 (h_X8_bad (d + 5) (by omega)) (by decide) wd_936 wd_933 wd_935 wd_62 wd_107 ⟨rfl, by decide +kernel, by decide +kernel, by decide +kernel⟩ dd_X8_ends_12, ?_⟩
  refine List.forall_mem_cons.mpr ⟨ok_iret hx hb hr hlocks hQ dd_X8_ends_15, ?_⟩
  refine List.forall_mem_cons.mpr ⟨ok_sipush hx hb dd_X8_ends_16 (by decide), ?_⟩
  refine List.forall_mem_cons.mpr ⟨ok_istore_n hx hb rfl dd_X8_ends_19, ?_⟩
  refine List.forall_mem_cons.mpr ⟨ok_aload_n hx hb rfl dd_X8_ends_20, ?_⟩
  refine List.forall_mem_cons.mpr ⟨ok_callV (n := 0) zc_X8 rv_X8_layHand C0 (h_X8_layHand (d + 5) (by omega)) (by decide) wd_1000 wd_997 wd_999 wd_67 wd_107 ⟨rfl, by decide +kernel, by decide +kernel, by decide +kernel⟩ dd_X8_ends_21, ?_⟩
  refine List.forall_mem_cons.mpr ⟨ok_iload_n hx hb rfl dd_X8_ends_24, ?_⟩
  refine List.forall_mem_cons.mpr ⟨ok_aload_n hx hb rfl dd_X8_ends_25, ?_⟩
  refine List.forall_mem_cons.mpr ⟨ok_getR (j := 0) hx hb hts zi_X8 hown hK zc_X8 (by decide) rfl (fun t fl h => by cases h; rfl) (hts _ wd_840) dd_X8_ends_26, ?_⟩
  refine List.forall_mem_cons.mpr ⟨ok_bipush hx hb dd_X8_ends_29 (by decide), ?_⟩
  refine List.forall_mem_cons.mpr ⟨ok_ald (ty := 0) rfl hx hb hK (Or.inl ⟨rfl, rfl, dd_X8_ends_31⟩), ?_⟩
  refine List.forall_mem_cons.mpr ⟨ok_icmp_lt hx hb dd_X8_ends_32 (by decide), ?_⟩
  refine List.forall_mem_cons.mpr ⟨ok_aload_n hx hb rfl dd_X8_ends_35, ?_⟩
  refine List.forall_mem_cons.mpr ⟨ok_iload_n hx hb rfl dd_X8_ends_36, ?_⟩
  refine List.forall_mem_cons.mpr ⟨ok_iload_n hx hb rfl dd_X8_ends_37, ?_⟩
  refine List.forall_mem_cons.mpr ⟨ok_iload_n hx hb rfl dd_X8_ends_38, ?_⟩
  refine List.forall_mem_cons.mpr ⟨ok_callV (n := 3) zc_X8 rv_X8_bindsNow C0 (h_X8_bindsNow (d + 5) (by omega)) (by decide) wd_1004 wd_1001 wd_1003 wd_68 wd_107 ⟨rfl, by decide +kernel, by decide +kernel, by decide +kernel⟩ dd_X8_ends_39, ?_⟩
  refine List.forall_mem_cons.mpr ⟨ok_if_ne hx hb dd_X8_ends_42 (by decide), ?_⟩
  refine List.forall_mem_cons.mpr ⟨ok_iinc hx hb dd_X8_ends_45 (by decide), ?_⟩
  refine List.forall_mem_cons.mpr ⟨ok_goto hx hb dd_X8_ends_48 (by decide), ?_⟩
  refine List.forall_mem_cons.mpr ⟨ok_iload_n hx hb rfl dd_X8_ends_51, ?_⟩
  refine List.forall_mem_cons.mpr ⟨ok_sipush hx hb dd_X8_ends_52 (by decide), ?_⟩
  refine List.forall_mem_cons.mpr ⟨ok_icmp_ne hx hb dd_X8_ends_55 (by decide), ?_⟩
  refine List.forall_mem_cons.mpr ⟨ok_iconst hx hb dd_X8_ends_58 (by decide), ?_⟩
  refine List.forall_mem_cons.mpr ⟨ok_goto hx hb dd_X8_ends_59 (by decide), ?_⟩
  refine List.forall_mem_cons.mpr ⟨ok_iload_n hx hb rfl dd_X8_ends_62, ?_⟩
  refine List.forall_mem_cons.mpr ⟨ok_iconst hx hb dd_X8_ends_63 (by decide), ?_⟩
  refine List.forall_mem_cons.mpr ⟨ok_iadd hx hb dd_X8_ends_64, ?_⟩
  refine List.forall_mem_cons.mpr ⟨ok_iret hx hb hr hlocks hQ dd_X8_ends_65, ?_⟩
  exact fun _ h => absurd h List.not_mem_nil
set_option maxRecDepth 100000 in
theorem vc_X8_ends_0 {kd : Nat → Nat} {K : zK} {X : zX} (hX : ∀ (n pc : Nat) (ls : zLS) (st : List zV) (M : zM), zrun (tb_X8_ends kd K) [(24, [])] n X pc ls st M → X pc ls st M) {c : Int32} {i : Int32} {M : zM} (hk0 : kd 9 = 8) (h : ∃ a1 : Sk, (RpF (M.1 9 1) a1) ∧ ∀ v1 : Int32, (v1 = zp ((sk_at a1 c.toInt i.toInt).isSome = true)) → ((¬ v1 = 0) → ∀ f2 : Nat → Int32, (∀ j9, j9 < 127 → f2 j9 = M.1 9 1 j9) → ∀ M2 : zM, (M2 = zmw M 9 5 f2) → X 24 [some (zR 9 0), some (zI (c)), some (zI (i)), some (zI ((999 : Int32)))] [] M2) ∧ ((v1 = 0) → ∀ v3 : Int32, (v3 = (-2 : Int32)) → ∀ M3 : zM, (M3 = zmw M 9 4 (upd (M.1 9 4) 0 (M.1 9 4 0 + 1))) → K (some (zI (v3))) M3)) : X 0 [some (zR 9 0), some (zI (c)), some (zI (i)), none] [] M := hX 11 0 _ [] M (show (kd 9 = 8) ∧ ∃ a1 : Sk, (RpF (M.1 9 1) a1) ∧ ∀ v1 : Int32, (v1 = zp ((sk_at a1 c.toInt i.toInt).isSome = true)) → ((¬ v1 = 0) → (kd 9 = 8) ∧ ∀ f2 : Nat → Int32, (∀ j9, j9 < 127 → f2 j9 = M.1 9 1 j9) → ∀ M2 : zM, (M2 = zmw M 9 5 f2) → X 24 [some (zR 9 0), some (zI (c)), some (zI (i)), some (zI ((999 : Int32)))] [] M2) ∧ ((v1 = 0) → (kd 9 = 8) ∧ ∀ v3 : Int32, (v3 = (-2 : Int32)) → ∀ M3 : zM, (M3 = zmw M 9 4 (upd (M.1 9 4) 0 (M.1 9 4 0 + 1))) → K (some (zI (v3))) M3) from ⟨hk0, h.elim (fun a1 h => ⟨a1, ⟨h.1, have h := h.2; fun v1 => have h := h v1; fun q => have h := h q; ⟨fun q => have h := h.1 q; ⟨hk0, fun f2 => have h := h f2; fun q => have h := h q; fun M2 => have h := h M2; fun q => have h := h q; h⟩, fun q => have h := h.2 q; ⟨hk0, fun v3 => have h := h v3; fun q => have h := h q; fun M3 => have h := h M3; fun q => have h := h q; h⟩⟩⟩⟩)⟩)
set_option maxRecDepth 100000 in
theorem vc_X8_ends_24 {kd : Nat → Nat} {K : zK} {X : zX} (hX : ∀ (n pc : Nat) (ls : zLS) (st : List zV) (M : zM), zrun (tb_X8_ends kd K) [(24, [])] n X pc ls st M → X pc ls st M) {c : Int32} {i : Int32} {y : Int32} {M : zM} (hk0 : kd 9 = 8) (h : (zin (kd 9) 1 0 (126 : Int32)) ∧ ((y < (M.1 9 1 ((126 : Int32)).toNatClampNeg)) → ((¬ y = (999 : Int32)) → K (some (zI (y + (1 : Int32)))) M) ∧ ((y = (999 : Int32)) → K (some (zI ((-1 : Int32)))) M)) ∧ ((¬ y < (M.1 9 1 ((126 : Int32)).toNatClampNeg)) → ∃ a1 : Sk, (RpF (M.1 9 5) a1) ∧ (¬ sk_at a1 c.toInt i.toInt = none) ∧ (0 ≤ y.toInt ∧ y.toInt < 1000000) ∧ ∀ v1 : Int32, (v1 = zp (sk_bd a1 c.toInt i.toInt y.toInt = true)) → ((¬ v1 = 0) → ((¬ y = (999 : Int32)) → K (some (zI (y + (1 : Int32)))) M) ∧ ((y = (999 : Int32)) → K (some (zI ((-1 : Int32)))) M)) ∧ ((v1 = 0) → X 24 [some (zR 9 0), some (zI (c)), some (zI (i)), some (zI (y + (-1)))] [] M))) : X 24 [some (zR 9 0), some (zI (c)), some (zI (i)), some (zI (y))] [] M := hX 20 24 _ [] M (show (kd 9 = 8) ∧ (zin (kd 9) 1 0 (126 : Int32)) ∧ ((y < (M.1 9 1 ((126 : Int32)).toNatClampNeg)) → ((¬ y = (999 : Int32)) → K (some (zI (y + (1 : Int32)))) M) ∧ ((y = (999 : Int32)) → K (some (zI ((-1 : Int32)))) M)) ∧ ((¬ y < (M.1 9 1 ((126 : Int32)).toNatClampNeg)) → (kd 9 = 8) ∧ ∃ a1 : Sk, (RpF (M.1 9 5) a1) ∧ (¬ sk_at a1 c.toInt i.toInt = none) ∧ (0 ≤ y.toInt ∧ y.toInt < 1000000) ∧ ∀ v1 : Int32, (v1 = zp (sk_bd a1 c.toInt i.toInt y.toInt = true)) → ((¬ v1 = 0) → ((¬ y = (999 : Int32)) → K (some (zI (y + (1 : Int32)))) M) ∧ ((y = (999 : Int32)) → K (some (zI ((-1 : Int32)))) M)) ∧ ((v1 = 0) → X 24 [some (zR 9 0), some (zI (c)), some (zI (i)), some (zI (y + (-1)))] [] M)) from ⟨hk0, ⟨h.1, have h := h.2; ⟨fun q => have h := h.1 q; ⟨fun q => have h := h.1 q; h, fun q => have h := h.2 q; h⟩, fun q => have h := h.2 q; ⟨hk0, h.elim (fun a1 h => ⟨a1, ⟨h.1, have h := h.2; ⟨h.1, have h := h.2; ⟨h.1, have h := h.2; fun v1 => have h := h v1; fun q => have h := h q; ⟨fun q => have h := h.1 q; ⟨fun q => have h := h.1 q; h, fun q => have h := h.2 q; h⟩, fun q => have h := h.2 q; h⟩⟩⟩⟩⟩)⟩⟩⟩⟩)
