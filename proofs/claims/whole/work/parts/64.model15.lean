def sp_X8_counted : zSpec := fun kd as M K => match as with
  | [.inr (.inr (.inl (9, 0))), .inl w] => (kd 9 = 8) ∧ ∃ s : St, (RpM M s) ∧ (0 ≤ w.toInt ∧ w.toInt ≤ 6) ∧ ∀ v : Int32, (v.toInt = (ev_count s w.toInt).1) → ∀ M' : zM, (RpM M' s) → (fr0 M M') → K (some (.inl v)) M'
  | _ => False
theorem rv_X8_counted : zrv sp_X8_counted 8 1 := by
  intro kd as M K h
  unfold sp_X8_counted at h
  split at h
  · exact ⟨_, _, rfl, h.1⟩
  · exact h.elim
theorem dd_X8_counted_0 : decode cX8_counted 0 = .ok (.aload_n 0, 1) := by decide +kernel
theorem dd_X8_counted_1 : decode cX8_counted 1 = .ok (.invokevirtual 145, 3) := by decide +kernel
theorem dd_X8_counted_4 : decode cX8_counted 4 = .ok (.iload_n 1, 1) := by decide +kernel
theorem dd_X8_counted_5 : decode cX8_counted 5 = .ok (.tableswitch 89 0 5 #[39, 47, 55, 60, 72, 80], 39) := by decide +kernel
theorem dd_X8_counted_44 : decode cX8_counted 44 = .ok (.aload_n 0, 1) := by decide +kernel
theorem dd_X8_counted_45 : decode cX8_counted 45 = .ok (.getfield 7, 3) := by decide +kernel
theorem dd_X8_counted_48 : decode cX8_counted 48 = .ok (.invokestatic 70, 3) := by decide +kernel
theorem dd_X8_counted_51 : decode cX8_counted 51 = .ok (.ireturn, 1) := by decide +kernel
theorem dd_X8_counted_52 : decode cX8_counted 52 = .ok (.aload_n 0, 1) := by decide +kernel
theorem dd_X8_counted_53 : decode cX8_counted 53 = .ok (.getfield 7, 3) := by decide +kernel
theorem dd_X8_counted_56 : decode cX8_counted 56 = .ok (.bipush 126, 2) := by decide +kernel
theorem dd_X8_counted_58 : decode cX8_counted 58 = .ok (.iaload, 1) := by decide +kernel
theorem dd_X8_counted_59 : decode cX8_counted 59 = .ok (.ireturn, 1) := by decide +kernel
theorem dd_X8_counted_60 : decode cX8_counted 60 = .ok (.aload_n 0, 1) := by decide +kernel
theorem dd_X8_counted_61 : decode cX8_counted 61 = .ok (.invokevirtual 300, 3) := by decide +kernel
theorem dd_X8_counted_64 : decode cX8_counted 64 = .ok (.ireturn, 1) := by decide +kernel
theorem dd_X8_counted_65 : decode cX8_counted 65 = .ok (.aload_n 0, 1) := by decide +kernel
theorem dd_X8_counted_66 : decode cX8_counted 66 = .ok (.aload_n 0, 1) := by decide +kernel
theorem dd_X8_counted_67 : decode cX8_counted 67 = .ok (.getfield 7, 3) := by decide +kernel
theorem dd_X8_counted_70 : decode cX8_counted 70 = .ok (.bipush 126, 2) := by decide +kernel
theorem dd_X8_counted_72 : decode cX8_counted 72 = .ok (.iaload, 1) := by decide +kernel
theorem dd_X8_counted_73 : decode cX8_counted 73 = .ok (.invokevirtual 240, 3) := by decide +kernel
theorem dd_X8_counted_76 : decode cX8_counted 76 = .ok (.ireturn, 1) := by decide +kernel
theorem dd_X8_counted_77 : decode cX8_counted 77 = .ok (.aload_n 0, 1) := by decide +kernel
theorem dd_X8_counted_78 : decode cX8_counted 78 = .ok (.getfield 7, 3) := by decide +kernel
theorem dd_X8_counted_81 : decode cX8_counted 81 = .ok (.bipush 127, 2) := by decide +kernel
theorem dd_X8_counted_83 : decode cX8_counted 83 = .ok (.iaload, 1) := by decide +kernel
theorem dd_X8_counted_84 : decode cX8_counted 84 = .ok (.ireturn, 1) := by decide +kernel
theorem dd_X8_counted_85 : decode cX8_counted 85 = .ok (.aload_n 0, 1) := by decide +kernel
theorem dd_X8_counted_86 : decode cX8_counted 86 = .ok (.getfield 7, 3) := by decide +kernel
theorem dd_X8_counted_89 : decode cX8_counted 89 = .ok (.sipush 128, 3) := by decide +kernel
theorem dd_X8_counted_92 : decode cX8_counted 92 = .ok (.iaload, 1) := by decide +kernel
theorem dd_X8_counted_93 : decode cX8_counted 93 = .ok (.ireturn, 1) := by decide +kernel
theorem dd_X8_counted_94 : decode cX8_counted 94 = .ok (.aload_n 0, 1) := by decide +kernel
theorem dd_X8_counted_95 : decode cX8_counted 95 = .ok (.getfield 245, 3) := by decide +kernel
theorem dd_X8_counted_98 : decode cX8_counted 98 = .ok (.ireturn, 1) := by decide +kernel
def tb_X8_counted (kd : Nat → Nat) (K : zK) : zTab := [(0, zt_aload 0 1), (1, zt_call kd sp_X8_layHand 1 4), (4, zt_iload 1 5), (5, zt_sw [(0, 44), (1, 52), (2, 60), (3, 65), (4, 77), (5, 85)] 94), (44, zt_aload 0 45), (45, zt_getR kd 8 0 1 48), (48, zt_call kd sp_X8_allLayers 1 51), (51, zt_iret K), (52, zt_aload 0 53), (53, zt_getR kd 8 0 1 56), (56, zt_const (zI 126) 58), (58, zt_ald kd 0 59), (59, zt_iret K), (60, zt_aload 0 61), (61, zt_call kd sp_X8_manyBind 1 64), (64, zt_iret K), (65, zt_aload 0 66), (66, zt_aload 0 67), (67, zt_getR kd 8 0 1 70), (70, zt_const (zI 126) 72), (72, zt_ald kd 0 73), (73, zt_call kd sp_X8_quarrels 2 76), (76, zt_iret K), (77, zt_aload 0 78), (78, zt_getR kd 8 0 1 81), (81, zt_const (zI 127) 83), (83, zt_ald kd 0 84), (84, zt_iret K), (85, zt_aload 0 86), (86, zt_getR kd 8 0 1 89), (89, zt_const (zI 128) 92), (92, zt_ald kd 0 93), (93, zt_iret K), (94, zt_aload 0 95), (95, zt_getI kd 8 16 98), (98, zt_iret K)]
set_option maxRecDepth 20000 in
theorem tk_X8_counted (d : Nat) (h_X8_layHand : zMS 1 yX8_layHand cX8_layHand 2 none sp_X8_layHand) (h_X8_allLayers : zMS 1 yX8_allLayers cX8_allLayers 3 (some .int) sp_X8_allLayers) (h_X8_manyBind : zMS 6 yX8_manyBind cX8_manyBind 4 (some .int) sp_X8_manyBind) (h_X8_quarrels : zMS 8 yX8_quarrels cX8_quarrels 4 (some .int) sp_X8_quarrels) : zTrue RX8 cX8_counted 2 (some .int) (d + 9) (fun kd K => tb_X8_counted kd K) := by
  intro p l e R s m args below meth c D cy A ad bl Qm K C0 hr hlocks hQ
  obtain ⟨hx, hb, hml, hown, hts, hK, hD, hA0, hN, hE, ⟨hR1, hR2⟩, hc1, hc2⟩ := id C0
  unfold tb_X8_counted
  refine List.forall_mem_cons.mpr ⟨ok_aload_n hx hb rfl dd_X8_counted_0, ?_⟩
  refine List.forall_mem_cons.mpr ⟨ok_callV (n := 0) zc_X8 rv_X8_layHand C0 (h_X8_layHand (d + 8) (by omega)) (by decide) wd_1000 wd_997 wd_999 wd_67 wd_107 ⟨rfl, by decide +kernel, by decide +kernel, by decide +kernel⟩ dd_X8_counted_1, ?_⟩
  refine List.forall_mem_cons.mpr ⟨ok_iload_n hx hb rfl dd_X8_counted_4, ?_⟩
  refine List.forall_mem_cons.mpr ⟨ok_tsw hx hb dd_X8_counted_5 (by decide) (by decide) (fun k hk => by rcases (show k = 0 ∨ k = 1 ∨ k = 2 ∨ k = 3 ∨ k = 4 ∨ k = 5 by simp at hk; omega) with rfl | rfl | rfl | rfl | rfl | rfl <;> exact ⟨_, _, rfl, by decide, rfl, by decide⟩), ?_⟩
  refine List.forall_mem_cons.mpr ⟨ok_aload_n hx hb rfl dd_X8_counted_44, ?_⟩
  refine List.forall_mem_cons.mpr ⟨ok_getR (j := 0) hx hb hts zi_X8 hown hK zc_X8 (by decide) rfl (fun t fl h => by cases h; rfl) (hts _ wd_840) dd_X8_counted_45, ?_⟩
  refine List.forall_mem_cons.mpr ⟨ok_callS (n := 1) C0 (h_X8_allLayers (d + 8) (by omega)) (by decide) wd_917 wd_915 wd_916 wd_107 ⟨by decide +kernel, by decide +kernel, by decide +kernel⟩ dd_X8_counted_48, ?_⟩
  refine List.forall_mem_cons.mpr ⟨ok_iret hx hb hr hlocks hQ dd_X8_counted_51, ?_⟩
  refine List.forall_mem_cons.mpr ⟨ok_aload_n hx hb rfl dd_X8_counted_52, ?_⟩
  refine List.forall_mem_cons.mpr ⟨ok_getR (j := 0) hx hb hts zi_X8 hown hK zc_X8 (by decide) rfl (fun t fl h => by cases h; rfl) (hts _ wd_840) dd_X8_counted_53, ?_⟩
  refine List.forall_mem_cons.mpr ⟨ok_bipush hx hb dd_X8_counted_56 (by decide), ?_⟩
  refine List.forall_mem_cons.mpr ⟨ok_ald (ty := 0) rfl hx hb hK (Or.inl ⟨rfl, rfl, dd_X8_counted_58⟩), ?_⟩
  refine List.forall_mem_cons.mpr ⟨ok_iret hx hb hr hlocks hQ dd_X8_counted_59, ?_⟩
  refine List.forall_mem_cons.mpr ⟨ok_aload_n hx hb rfl dd_X8_counted_60, ?_⟩
  refine List.forall_mem_cons.mpr ⟨ok_callV (n := 0) zc_X8 rv_X8_manyBind C0 (h_X8_manyBind (d + 8) (by omega)) (by decide) wd_1238 wd_1235 wd_1237 wd_97 wd_107 ⟨rfl, by decide +kernel, by decide +kernel, by decide +kernel⟩ dd_X8_counted_61, ?_⟩
  refine List.forall_mem_cons.mpr ⟨ok_iret hx hb hr hlocks hQ dd_X8_counted_64, ?_⟩
  refine List.forall_mem_cons.mpr ⟨ok_aload_n hx hb rfl dd_X8_counted_65, ?_⟩
  refine List.forall_mem_cons.mpr ⟨ok_aload_n hx hb rfl dd_X8_counted_66, ?_⟩
  refine List.forall_mem_cons.mpr ⟨ok_getR (j := 0) hx hb hts zi_X8 hown hK zc_X8 (by decide) rfl (fun t fl h => by cases h; rfl) (hts _ wd_840) dd_X8_counted_67, ?_⟩
  refine List.forall_mem_cons.mpr ⟨ok_bipush hx hb dd_X8_counted_70 (by decide), ?_⟩
  refine List.forall_mem_cons.mpr ⟨ok_ald (ty := 0) rfl hx hb hK (Or.inl ⟨rfl, rfl, dd_X8_counted_72⟩), ?_⟩
  refine List.forall_mem_cons.mpr ⟨ok_callV (n := 1) zc_X8 rv_X8_quarrels C0 (h_X8_quarrels (d + 8) (by omega)) (by decide) wd_1155 wd_1152 wd_1154 wd_87 wd_107 ⟨rfl, by decide +kernel, by decide +kernel, by decide +kernel⟩ dd_X8_counted_73, ?_⟩
  refine List.forall_mem_cons.mpr ⟨ok_iret hx hb hr hlocks hQ dd_X8_counted_76, ?_⟩
  refine List.forall_mem_cons.mpr ⟨ok_aload_n hx hb rfl dd_X8_counted_77, ?_⟩
  refine List.forall_mem_cons.mpr ⟨ok_getR (j := 0) hx hb hts zi_X8 hown hK zc_X8 (by decide) rfl (fun t fl h => by cases h; rfl) (hts _ wd_840) dd_X8_counted_78, ?_⟩
  refine List.forall_mem_cons.mpr ⟨ok_bipush hx hb dd_X8_counted_81 (by decide), ?_⟩
  refine List.forall_mem_cons.mpr ⟨ok_ald (ty := 0) rfl hx hb hK (Or.inl ⟨rfl, rfl, dd_X8_counted_83⟩), ?_⟩
  refine List.forall_mem_cons.mpr ⟨ok_iret hx hb hr hlocks hQ dd_X8_counted_84, ?_⟩
  refine List.forall_mem_cons.mpr ⟨ok_aload_n hx hb rfl dd_X8_counted_85, ?_⟩
  refine List.forall_mem_cons.mpr ⟨ok_getR (j := 0) hx hb hts zi_X8 hown hK zc_X8 (by decide) rfl (fun t fl h => by cases h; rfl) (hts _ wd_840) dd_X8_counted_86, ?_⟩
  refine List.forall_mem_cons.mpr ⟨ok_sipush hx hb dd_X8_counted_89 (by decide), ?_⟩
  refine List.forall_mem_cons.mpr ⟨ok_ald (ty := 0) rfl hx hb hK (Or.inl ⟨rfl, rfl, dd_X8_counted_92⟩), ?_⟩
  refine List.forall_mem_cons.mpr ⟨ok_iret hx hb hr hlocks hQ dd_X8_counted_93, ?_⟩
  refine List.forall_mem_cons.mpr ⟨ok_aload_n hx hb rfl dd_X8_counted_94, ?_⟩
  refine List.forall_mem_cons.mpr ⟨ok_getI (j := 16) hx hb hts zi_X8 hown hK zc_X8 (by decide) rfl (fun t fl h => by cases h; rfl) (hts _ wd_856) dd_X8_counted_95, ?_⟩
  refine List.forall_mem_cons.mpr ⟨ok_iret hx hb hr hlocks hQ dd_X8_counted_98, ?_⟩
  exact fun _ h => absurd h List.not_mem_nil
set_option maxRecDepth 100000 in
theorem vc_X8_counted_0 {kd : Nat → Nat} {K : zK} {X : zX} (hX : ∀ (n pc : Nat) (ls : zLS) (st : List zV) (M : zM), zrun (tb_X8_counted kd K) [] n X pc ls st M → X pc ls st M) {w : Int32} {M : zM} (hk0 : kd 9 = 8) (h : ∀ f1 : Nat → Int32, (∀ j9, j9 < 127 → f1 j9 = M.1 9 1 j9) → ∀ M1 : zM, (M1 = zmw M 9 5 f1) → ((w = 0) → (1 = 1 ∨ 1 = 5 ∨ 1 = 10) ∧ ∃ a4 : Sk, (RpF (M1.1 9 1) a4) ∧ ∀ v4 : Int32, (v4.toInt = sk_all a4) → K (some (zI (v4))) M1) ∧ ((¬ w = 0) → ((w = 1) → (zin (kd 9) 1 0 (126 : Int32)) ∧ K (some (zI (M1.1 9 1 ((126 : Int32)).toNatClampNeg))) M1) ∧ ((¬ w = 1) → ((w = 2) → ∃ a3 : Sk, (RpF (M1.1 9 5) a3) ∧ (M1.1 9 1 126 = M1.1 9 5 126) ∧ ∀ v3 : Int32, (v3.toInt = sk_bi a3 a3.2) → K (some (zI (v3))) M1) ∧ ((¬ w = 2) → ((w = 3) → (zin (kd 9) 1 0 (126 : Int32)) ∧ ∃ a2 : Sk, (RpF (M1.1 9 5) a2) ∧ (0 ≤ (M1.1 9 1 ((126 : Int32)).toNatClampNeg).toInt ∧ (M1.1 9 1 ((126 : Int32)).toNatClampNeg).toInt < 1000000) ∧ ∀ v2 : Int32, (v2.toInt = sk_qu a2 (M1.1 9 1 ((126 : Int32)).toNatClampNeg).toInt) → ∀ f2 : Nat → Int32, (∀ j9, j9 ≠ 7 → j9 ≠ 8 → f2 j9 = M1.1 9 0 j9) → ∀ M2 : zM, (M2 = zmw M1 9 0 f2) → K (some (zI (v2))) M2) ∧ ((¬ w = 3) → ((w = 4) → (zin (kd 9) 1 0 (127 : Int32)) ∧ K (some (zI (M1.1 9 1 ((127 : Int32)).toNatClampNeg))) M1) ∧ ((¬ w = 4) → ((w = 5) → (zin (kd 9) 1 0 (128 : Int32)) ∧ K (some (zI (M1.1 9 1 ((128 : Int32)).toNatClampNeg))) M1) ∧ ((¬ w = 5) → K (some (zI (M1.1 9 0 16))) M1))))))) : X 0 [some (zR 9 0), some (zI (w))] [] M := hX 12 0 _ [] M (show (kd 9 = 8) ∧ ∀ f1 : Nat → Int32, (∀ j9, j9 < 127 → f1 j9 = M.1 9 1 j9) → ∀ M1 : zM, (M1 = zmw M 9 5 f1) → ((w = 0) → (kd 9 = 8) ∧ (kd 9 = 8) ∧ (1 = 1 ∨ 1 = 5 ∨ 1 = 10) ∧ ∃ a4 : Sk, (RpF (M1.1 9 1) a4) ∧ ∀ v4 : Int32, (v4.toInt = sk_all a4) → K (some (zI (v4))) M1) ∧ ((¬ w = 0) → ((w = 1) → (kd 9 = 8) ∧ (zin (kd 9) 1 0 (126 : Int32)) ∧ K (some (zI (M1.1 9 1 ((126 : Int32)).toNatClampNeg))) M1) ∧ ((¬ w = 1) → ((w = 2) → (kd 9 = 8) ∧ ∃ a3 : Sk, (RpF (M1.1 9 5) a3) ∧ (M1.1 9 1 126 = M1.1 9 5 126) ∧ ∀ v3 : Int32, (v3.toInt = sk_bi a3 a3.2) → K (some (zI (v3))) M1) ∧ ((¬ w = 2) → ((w = 3) → (kd 9 = 8) ∧ (zin (kd 9) 1 0 (126 : Int32)) ∧ (kd 9 = 8) ∧ ∃ a2 : Sk, (RpF (M1.1 9 5) a2) ∧ (0 ≤ (M1.1 9 1 ((126 : Int32)).toNatClampNeg).toInt ∧ (M1.1 9 1 ((126 : Int32)).toNatClampNeg).toInt < 1000000) ∧ ∀ v2 : Int32, (v2.toInt = sk_qu a2 (M1.1 9 1 ((126 : Int32)).toNatClampNeg).toInt) → ∀ f2 : Nat → Int32, (∀ j9, j9 ≠ 7 → j9 ≠ 8 → f2 j9 = M1.1 9 0 j9) → ∀ M2 : zM, (M2 = zmw M1 9 0 f2) → K (some (zI (v2))) M2) ∧ ((¬ w = 3) → ((w = 4) → (kd 9 = 8) ∧ (zin (kd 9) 1 0 (127 : Int32)) ∧ K (some (zI (M1.1 9 1 ((127 : Int32)).toNatClampNeg))) M1) ∧ ((¬ w = 4) → ((w = 5) → (kd 9 = 8) ∧ (zin (kd 9) 1 0 (128 : Int32)) ∧ K (some (zI (M1.1 9 1 ((128 : Int32)).toNatClampNeg))) M1) ∧ ((¬ w = 5) → (kd 9 = 8) ∧ K (some (zI (M1.1 9 0 16))) M1)))))) from ⟨hk0, fun f1 => have h := h f1; fun q => have h := h q; fun M1 => have h := h M1; fun q => have h := h q; ⟨fun q => have h := h.1 q; ⟨hk0, ⟨hk0, ⟨h.1, have h := h.2; h.elim (fun a4 h => ⟨a4, ⟨h.1, have h := h.2; fun v4 => have h := h v4; fun q => have h := h q; h⟩⟩)⟩⟩⟩, fun q => have h := h.2 q; ⟨fun q => have h := h.1 q; ⟨hk0, ⟨h.1, have h := h.2; h⟩⟩, fun q => have h := h.2 q; ⟨fun q => have h := h.1 q; ⟨hk0, h.elim (fun a3 h => ⟨a3, ⟨h.1, have h := h.2; ⟨h.1, have h := h.2; fun v3 => have h := h v3; fun q => have h := h q; h⟩⟩⟩)⟩, fun q => have h := h.2 q; ⟨fun q => have h := h.1 q; ⟨hk0, ⟨h.1, have h := h.2; ⟨hk0, h.elim (fun a2 h => ⟨a2, ⟨h.1, have h := h.2; ⟨h.1, have h := h.2; fun v2 => have h := h v2; fun q => have h := h q; fun f2 => have h := h f2; fun q => have h := h q; fun M2 => have h := h M2; fun q => have h := h q; h⟩⟩⟩)⟩⟩⟩, fun q => have h := h.2 q; ⟨fun q => have h := h.1 q; ⟨hk0, ⟨h.1, have h := h.2; h⟩⟩, fun q => have h := h.2 q; ⟨fun q => have h := h.1 q; ⟨hk0, ⟨h.1, have h := h.2; h⟩⟩, fun q => have h := h.2 q; ⟨hk0, h⟩⟩⟩⟩⟩⟩⟩⟩)
def sp_X8_count : zSpec := fun kd as M K => match as with
  | [.inr (.inr (.inl (9, 0))), .inl w] => (kd 9 = 8) ∧ ∃ s : St, (RpM M s) ∧ ∀ v : Int32, (v.toInt = (ev_count s w.toInt).1) → ∀ M' : zM, (RpM M' (ev_count s w.toInt).2) → (fr0 M M') → K (some (.inl v)) M'
  | _ => False
theorem rv_X8_count : zrv sp_X8_count 8 1 := by
  intro kd as M K h
  unfold sp_X8_count at h
  split at h
  · exact ⟨_, _, rfl, h.1⟩
  · exact h.elim
theorem dd_X8_count_0 : decode cX8_count 0 = .ok (.iload_n 1, 1) := by decide +kernel
theorem dd_X8_count_1 : decode cX8_count 1 = .ok (.i2l, 1) := by decide +kernel
theorem dd_X8_count_2 : decode cX8_count 2 = .ok (.lconst 0, 1) := by decide +kernel
theorem dd_X8_count_3 : decode cX8_count 3 = .ok (.ldc2_w 232, 3) := by decide +kernel
theorem dd_X8_count_6 : decode cX8_count 6 = .ok (.invokestatic 54, 3) := by decide +kernel
theorem dd_X8_count_9 : decode cX8_count 9 = .ok (.ifCond .eq 11, 3) := by decide +kernel
theorem dd_X8_count_12 : decode cX8_count 12 = .ok (.aload_n 0, 1) := by decide +kernel
theorem dd_X8_count_13 : decode cX8_count 13 = .ok (.iload_n 1, 1) := by decide +kernel
theorem dd_X8_count_14 : decode cX8_count 14 = .ok (.invokevirtual 303, 3) := by decide +kernel
theorem dd_X8_count_17 : decode cX8_count 17 = .ok (.goto 9, 3) := by decide +kernel
theorem dd_X8_count_20 : decode cX8_count 20 = .ok (.aload_n 0, 1) := by decide +kernel
theorem dd_X8_count_21 : decode cX8_count 21 = .ok (.bipush (-2), 2) := by decide +kernel
theorem dd_X8_count_23 : decode cX8_count 23 = .ok (.invokevirtual 81, 3) := by decide +kernel
theorem dd_X8_count_26 : decode cX8_count 26 = .ok (.ireturn, 1) := by decide +kernel
def tb_X8_count (kd : Nat → Nat) (K : zK) : zTab := [(0, zt_iload 1 1), (1, zt_un (fun x => zL x.toInt64) 2), (2, zt_const (zL 0) 3), (3, zt_const (zL 6) 6), (6, zt_call kd sp_X8_in 3 9), (9, zt_if (fun x => x = 0) (fun x => ¬ x = 0) 20 12), (12, zt_aload 0 13), (13, zt_iload 1 14), (14, zt_call kd sp_X8_counted 2 17), (17, zt_goto 26), (20, zt_aload 0 21), (21, zt_const (zI (-2)) 23), (23, zt_call kd sp_X8_bad 2 26), (26, zt_iret K)]
set_option maxRecDepth 20000 in
theorem tk_X8_count (d : Nat) (h_X8_in : zMS 1 yX8_in cX8_in 6 (some .boolean) sp_X8_in) (h_X8_counted : zMS 9 yX8_counted cX8_counted 2 (some .int) sp_X8_counted) (h_X8_bad : zMS 1 yX8_bad cX8_bad 2 (some .int) sp_X8_bad) : zTrue RX8 cX8_count 2 (some .int) (d + 10) (fun kd K => tb_X8_count kd K) := by
  intro p l e R s m args below meth c D cy A ad bl Qm K C0 hr hlocks hQ
  obtain ⟨hx, hb, hml, hown, hts, hK, hD, hA0, hN, hE, ⟨hR1, hR2⟩, hc1, hc2⟩ := id C0
  unfold tb_X8_count
  refine List.forall_mem_cons.mpr ⟨ok_iload_n hx hb rfl dd_X8_count_0, ?_⟩
  refine List.forall_mem_cons.mpr ⟨ok_i2l hx hb dd_X8_count_1, ?_⟩
  refine List.forall_mem_cons.mpr ⟨ok_lconst hx hb dd_X8_count_2 (by decide), ?_⟩
  refine List.forall_mem_cons.mpr ⟨ok_ldc2 hx hb hown (hts _ wd_1148) dd_X8_count_3, ?_⟩
  refine List.forall_mem_cons.mpr ⟨ok_callS (n := 3) C0 (h_X8_in (d + 9) (by omega)) (by decide) wd_928 wd_926 wd_927 wd_107 ⟨by decide +kernel, by decide +kernel, by decide +kernel⟩ dd_X8_count_6, ?_⟩
  refine List.forall_mem_cons.mpr ⟨ok_if_eq hx hb dd_X8_count_9 (by decide), ?_⟩
  refine List.forall_mem_cons.mpr ⟨ok_aload_n hx hb rfl dd_X8_count_12, ?_⟩
  refine List.forall_mem_cons.mpr ⟨ok_iload_n hx hb rfl dd_X8_count_13, ?_⟩
  refine List.forall_mem_cons.mpr ⟨ok_callV (n := 1) zc_X8 rv_X8_counted C0 (h_X8_counted (d + 9) (by omega)) (by decide) wd_1234 wd_1231 wd_1233 wd_96 wd_107 ⟨rfl, by decide +kernel, by decide +kernel, by decide +kernel⟩ dd_X8_count_14, ?_⟩
  refine List.forall_mem_cons.mpr ⟨ok_goto hx hb dd_X8_count_17 (by decide), ?_⟩
  refine List.forall_mem_cons.mpr ⟨ok_aload_n hx hb rfl dd_X8_count_20, ?_⟩
  refine List.forall_mem_cons.mpr ⟨ok_bipush hx hb dd_X8_count_21 (by decide), ?_⟩
  refine List.forall_mem_cons.mpr ⟨ok_callV (n := 1) zc_X8 rv_X8_bad C0 (h_X8_bad (d + 9) (by omega)) (by decide) wd_936 wd_933 wd_935 wd_62 wd_107 ⟨rfl, by decide +kernel, by decide +kernel, by decide +kernel⟩ dd_X8_count_23, ?_⟩
  refine List.forall_mem_cons.mpr ⟨ok_iret hx hb hr hlocks hQ dd_X8_count_26, ?_⟩
  exact fun _ h => absurd h List.not_mem_nil
set_option maxRecDepth 100000 in
theorem vc_X8_count_0 {kd : Nat → Nat} {K : zK} {X : zX} (hX : ∀ (n pc : Nat) (ls : zLS) (st : List zV) (M : zM), zrun (tb_X8_count kd K) [] n X pc ls st M → X pc ls st M) {w : Int32} {M : zM} (hk0 : kd 9 = 8) (h : ∀ v1 : Int32, (v1 = zp ((0 : Int64).toInt ≤ w.toInt64.toInt ∧ w.toInt64.toInt ≤ (6 : Int64).toInt)) → ((v1 = 0) → ∀ v2 : Int32, (v2 = (-2 : Int32)) → ∀ M2 : zM, (M2 = zmw M 9 4 (upd (M.1 9 4) 0 (M.1 9 4 0 + 1))) → K (some (zI (v2))) M2) ∧ ((¬ v1 = 0) → ∃ s3 : St, (RpM M s3) ∧ (0 ≤ w.toInt ∧ w.toInt ≤ 6) ∧ ∀ v3 : Int32, (v3.toInt = (ev_count s3 w.toInt).1) → ∀ M3 : zM, (RpM M3 s3) → (fr0 M M3) → K (some (zI (v3))) M3)) : X 0 [some (zR 9 0), some (zI (w))] [] M := hX 12 0 _ [] M (show ∀ v1 : Int32, (v1 = zp ((0 : Int64).toInt ≤ w.toInt64.toInt ∧ w.toInt64.toInt ≤ (6 : Int64).toInt)) → ((v1 = 0) → (kd 9 = 8) ∧ ∀ v2 : Int32, (v2 = (-2 : Int32)) → ∀ M2 : zM, (M2 = zmw M 9 4 (upd (M.1 9 4) 0 (M.1 9 4 0 + 1))) → K (some (zI (v2))) M2) ∧ ((¬ v1 = 0) → (kd 9 = 8) ∧ ∃ s3 : St, (RpM M s3) ∧ (0 ≤ w.toInt ∧ w.toInt ≤ 6) ∧ ∀ v3 : Int32, (v3.toInt = (ev_count s3 w.toInt).1) → ∀ M3 : zM, (RpM M3 s3) → (fr0 M M3) → K (some (zI (v3))) M3) from fun v1 => have h := h v1; fun q => have h := h q; ⟨fun q => have h := h.1 q; ⟨hk0, fun v2 => have h := h v2; fun q => have h := h q; fun M2 => have h := h M2; fun q => have h := h q; h⟩, fun q => have h := h.2 q; ⟨hk0, h.elim (fun s3 h => ⟨s3, ⟨h.1, have h := h.2; ⟨h.1, have h := h.2; fun v3 => have h := h v3; fun q => have h := h q; fun M3 => have h := h M3; fun q => have h := h q; fun q => have h := h q; h⟩⟩⟩)⟩⟩)
