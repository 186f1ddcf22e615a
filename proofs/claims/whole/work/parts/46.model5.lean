
/-! the model's block holds a state -/
def RpW (f : Nat → Int32) (r : Rl) : Prop := RpF f r.1 ∧ (r.2.2.length ≤ 6 ∧ (f 127).toInt = (r.2.2.length : Int) ∧ ∀ (i : Nat) (x : Se), r.2.2[i]? = some x → okSe x ∧ (f (129 + 4 * i)).toInt = x.1 ∧ (f (129 + 4 * i + 1)).toInt = x.2.1 ∧ (f (129 + 4 * i + 2)).toInt = x.2.2.1 ∧ (f (129 + 4 * i + 3)).toInt = x.2.2.2) ∧ (r.2.1.length ≤ 6 ∧ (f 128).toInt = (r.2.1.length : Int) ∧ ∀ (i : Nat) (b : Sk), r.2.1[i]? = some b → RpF (fun k => f (153 + 127 * i + k)) b)
def RpY (M : zM) (b : List Int) : Prop := b.length ≤ 150 ∧ (M.1 9 0 16).toInt = (b.length : Int) ∧ ∀ (i : Nat) (z : Int), b[i]? = some z → (0 ≤ z ∧ z ≤ 127) ∧ (M.1 9 9 i).toInt = z
def RpM (M : zM) (s : St) : Prop := RpW (M.1 9 1) s.1 ∧ (∀ j, j < 2 → ((s.2.1 j).isSome = true ↔ ¬ M.1 9 3 j = 0) ∧ ∀ r, s.2.1 j = some r → RpW (fun k => M.1 9 2 (915 * j + k)) r) ∧ RpY M s.2.2.1 ∧ ((M.2 9 4).toInt = s.2.2.2.1.1 ∧ (M.2 9 5).toInt = s.2.2.2.1.2) ∧ (∀ n, n < 3 → M.1 9 4 n = s.2.2.2.2 n)
def sp_X8_roll : zSpec := fun kd as M K => match as with
  | [.inr (.inr (.inl (9, 0)))] => (kd 9 = 8) ∧ ∃ s : St, (RpM M s) ∧ ∀ v : Int32, (v.toInt = (ev_roll s).1) → ∀ M' : zM, (RpM M' (ev_roll s).2) → (fr0 M M') → K (some (.inl v)) M'
  | _ => False
theorem rv_X8_roll : zrv sp_X8_roll 8 0 := by
  intro kd as M K h
  unfold sp_X8_roll at h
  split at h
  · exact ⟨_, _, rfl, h.1⟩
  · exact h.elim
theorem dd_X8_roll_0 : decode cX8_roll 0 = .ok (.aload_n 0, 1) := by decide +kernel
theorem dd_X8_roll_1 : decode cX8_roll 1 = .ok (.getfield 7, 3) := by decide +kernel
theorem dd_X8_roll_4 : decode cX8_roll 4 = .ok (.invokestatic 70, 3) := by decide +kernel
theorem dd_X8_roll_7 : decode cX8_roll 7 = .ok (.istore_n 1, 1) := by decide +kernel
theorem dd_X8_roll_8 : decode cX8_roll 8 = .ok (.aload_n 0, 1) := by decide +kernel
theorem dd_X8_roll_9 : decode cX8_roll 9 = .ok (.getfield 7, 3) := by decide +kernel
theorem dd_X8_roll_12 : decode cX8_roll 12 = .ok (.invokestatic 48, 3) := by decide +kernel
theorem dd_X8_roll_15 : decode cX8_roll 15 = .ok (.iload_n 1, 1) := by decide +kernel
theorem dd_X8_roll_16 : decode cX8_roll 16 = .ok (.ireturn, 1) := by decide +kernel
def tb_X8_roll (kd : Nat → Nat) (K : zK) : zTab := [(0, zt_aload 0 1), (1, zt_getR kd 8 0 1 4), (4, zt_call kd sp_X8_allLayers 1 7), (7, zt_istore 1 8), (8, zt_aload 0 9), (9, zt_getR kd 8 0 1 12), (12, zt_call kd sp_X8_begin 1 15), (15, zt_iload 1 16), (16, zt_iret K)]
set_option maxRecDepth 20000 in
theorem tk_X8_roll (d : Nat) (h_X8_allLayers : zMS 1 yX8_allLayers cX8_allLayers 3 (some .int) sp_X8_allLayers) (h_X8_begin : zMS 1 yX8_begin cX8_begin 2 none sp_X8_begin) : zTrue RX8 cX8_roll 2 (some .int) (d + 2) (fun kd K => tb_X8_roll kd K) := by
  intro p l e R s m args below meth c D cy A ad bl Qm K C0 hr hlocks hQ
  obtain ⟨hx, hb, hml, hown, hts, hK, hD, hA0, hN, hE, ⟨hR1, hR2⟩, hc1, hc2⟩ := id C0
  unfold tb_X8_roll
  refine List.forall_mem_cons.mpr ⟨ok_aload_n hx hb rfl dd_X8_roll_0, ?_⟩
  refine List.forall_mem_cons.mpr ⟨ok_getR (j := 0) hx hb hts zi_X8 hown hK zc_X8 (by decide) rfl (fun t fl h => by cases h; rfl) (hts _ wd_840) dd_X8_roll_1, ?_⟩
  refine List.forall_mem_cons.mpr ⟨ok_callS (n := 1) C0 (h_X8_allLayers (d + 1) (by omega)) (by decide) wd_917 wd_915 wd_916 wd_107 ⟨by decide +kernel, by decide +kernel, by decide +kernel⟩ dd_X8_roll_4, ?_⟩
  refine List.forall_mem_cons.mpr ⟨ok_istore_n hx hb rfl dd_X8_roll_7, ?_⟩
  refine List.forall_mem_cons.mpr ⟨ok_aload_n hx hb rfl dd_X8_roll_8, ?_⟩
  refine List.forall_mem_cons.mpr ⟨ok_getR (j := 0) hx hb hts zi_X8 hown hK zc_X8 (by decide) rfl (fun t fl h => by cases h; rfl) (hts _ wd_840) dd_X8_roll_9, ?_⟩
  refine List.forall_mem_cons.mpr ⟨ok_callS (n := 1) C0 (h_X8_begin (d + 1) (by omega)) (by decide) wd_839 wd_837 wd_838 wd_107 ⟨by decide +kernel, by decide +kernel, by decide +kernel⟩ dd_X8_roll_12, ?_⟩
  refine List.forall_mem_cons.mpr ⟨ok_iload_n hx hb rfl dd_X8_roll_15, ?_⟩
  refine List.forall_mem_cons.mpr ⟨ok_iret hx hb hr hlocks hQ dd_X8_roll_16, ?_⟩
  exact fun _ h => absurd h List.not_mem_nil
set_option maxRecDepth 100000 in
theorem vc_X8_roll_0 {kd : Nat → Nat} {K : zK} {X : zX} (hX : ∀ (n pc : Nat) (ls : zLS) (st : List zV) (M : zM), zrun (tb_X8_roll kd K) [] n X pc ls st M → X pc ls st M)  {M : zM} (hk0 : kd 9 = 8) (h : (1 = 1 ∨ 1 = 5 ∨ 1 = 10) ∧ ∃ a1 : Sk, (RpF (M.1 9 1) a1) ∧ ∀ v1 : Int32, (v1.toInt = sk_all a1) → (1 = 1 ∨ 1 = 10) ∧ ∀ f2 : Nat → Int32, (∀ j9, j9 < 153 → f2 j9 = 0) → (∀ j9, 153 ≤ j9 → f2 j9 = M.1 9 1 j9) → ∀ M2 : zM, (M2 = zmw M 9 1 f2) → K (some (zI (v1))) M2) : X 0 [some (zR 9 0), none] [] M := hX 10 0 _ [] M (show (kd 9 = 8) ∧ (kd 9 = 8) ∧ (1 = 1 ∨ 1 = 5 ∨ 1 = 10) ∧ ∃ a1 : Sk, (RpF (M.1 9 1) a1) ∧ ∀ v1 : Int32, (v1.toInt = sk_all a1) → (kd 9 = 8) ∧ (kd 9 = 8) ∧ (1 = 1 ∨ 1 = 10) ∧ ∀ f2 : Nat → Int32, (∀ j9, j9 < 153 → f2 j9 = 0) → (∀ j9, 153 ≤ j9 → f2 j9 = M.1 9 1 j9) → ∀ M2 : zM, (M2 = zmw M 9 1 f2) → K (some (zI (v1))) M2 from ⟨hk0, ⟨hk0, ⟨h.1, have h := h.2; h.elim (fun a1 h => ⟨a1, ⟨h.1, have h := h.2; fun v1 => have h := h v1; fun q => have h := h q; ⟨hk0, ⟨hk0, ⟨h.1, have h := h.2; fun f2 => have h := h f2; fun q => have h := h q; fun q => have h := h q; fun M2 => have h := h M2; fun q => have h := h q; h⟩⟩⟩⟩⟩)⟩⟩⟩)
def sp_X8_layers : zSpec := fun kd as M K => match as with
  | [.inr (.inr (.inl (9, 0))), .inl c] => (kd 9 = 8) ∧ ∃ s : St, (RpM M s) ∧ ∀ v : Int32, (v.toInt = (ev_layers s c.toInt).1) → ∀ M' : zM, (RpM M' (ev_layers s c.toInt).2) → (fr0 M M') → K (some (.inl v)) M'
  | _ => False
theorem rv_X8_layers : zrv sp_X8_layers 8 1 := by
  intro kd as M K h
  unfold sp_X8_layers at h
  split at h
  · exact ⟨_, _, rfl, h.1⟩
  · exact h.elim
theorem dd_X8_layers_0 : decode cX8_layers 0 = .ok (.iload_n 1, 1) := by decide +kernel
theorem dd_X8_layers_1 : decode cX8_layers 1 = .ok (.invokestatic 74, 3) := by decide +kernel
theorem dd_X8_layers_4 : decode cX8_layers 4 = .ok (.ifCond .eq 14, 3) := by decide +kernel
theorem dd_X8_layers_7 : decode cX8_layers 7 = .ok (.aload_n 0, 1) := by decide +kernel
theorem dd_X8_layers_8 : decode cX8_layers 8 = .ok (.getfield 7, 3) := by decide +kernel
theorem dd_X8_layers_11 : decode cX8_layers 11 = .ok (.iconst 0, 1) := by decide +kernel
theorem dd_X8_layers_12 : decode cX8_layers 12 = .ok (.iload_n 1, 1) := by decide +kernel
theorem dd_X8_layers_13 : decode cX8_layers 13 = .ok (.iadd, 1) := by decide +kernel
theorem dd_X8_layers_14 : decode cX8_layers 14 = .ok (.iaload, 1) := by decide +kernel
theorem dd_X8_layers_15 : decode cX8_layers 15 = .ok (.goto 9, 3) := by decide +kernel
theorem dd_X8_layers_18 : decode cX8_layers 18 = .ok (.aload_n 0, 1) := by decide +kernel
theorem dd_X8_layers_19 : decode cX8_layers 19 = .ok (.bipush (-2), 2) := by decide +kernel
theorem dd_X8_layers_21 : decode cX8_layers 21 = .ok (.invokevirtual 81, 3) := by decide +kernel
theorem dd_X8_layers_24 : decode cX8_layers 24 = .ok (.ireturn, 1) := by decide +kernel
def tb_X8_layers (kd : Nat → Nat) (K : zK) : zTab := [(0, zt_iload 1 1), (1, zt_call kd sp_X8_isCell 1 4), (4, zt_if (fun x => x = 0) (fun x => ¬ x = 0) 18 7), (7, zt_aload 0 8), (8, zt_getR kd 8 0 1 11), (11, zt_const (zI 0) 12), (12, zt_iload 1 13), (13, zt_bin (fun x y => x + y) 14), (14, zt_ald kd 0 15), (15, zt_goto 24), (18, zt_aload 0 19), (19, zt_const (zI (-2)) 21), (21, zt_call kd sp_X8_bad 2 24), (24, zt_iret K)]
set_option maxRecDepth 20000 in
theorem tk_X8_layers (d : Nat) (h_X8_isCell : zMS 2 yX8_isCell cX8_isCell 1 (some .boolean) sp_X8_isCell) (h_X8_bad : zMS 1 yX8_bad cX8_bad 2 (some .int) sp_X8_bad) : zTrue RX8 cX8_layers 2 (some .int) (d + 3) (fun kd K => tb_X8_layers kd K) := by
  intro p l e R s m args below meth c D cy A ad bl Qm K C0 hr hlocks hQ
  obtain ⟨hx, hb, hml, hown, hts, hK, hD, hA0, hN, hE, ⟨hR1, hR2⟩, hc1, hc2⟩ := id C0
  unfold tb_X8_layers
  refine List.forall_mem_cons.mpr ⟨ok_iload_n hx hb rfl dd_X8_layers_0, ?_⟩
  refine List.forall_mem_cons.mpr ⟨ok_callS (n := 1) C0 (h_X8_isCell (d + 2) (by omega)) (by decide) wd_924 wd_922 wd_923 wd_107 ⟨by decide +kernel, by decide +kernel, by decide +kernel⟩ dd_X8_layers_1, ?_⟩
  refine List.forall_mem_cons.mpr ⟨ok_if_eq hx hb dd_X8_layers_4 (by decide), ?_⟩
  refine List.forall_mem_cons.mpr ⟨ok_aload_n hx hb rfl dd_X8_layers_7, ?_⟩
  refine List.forall_mem_cons.mpr ⟨ok_getR (j := 0) hx hb hts zi_X8 hown hK zc_X8 (by decide) rfl (fun t fl h => by cases h; rfl) (hts _ wd_840) dd_X8_layers_8, ?_⟩
  refine List.forall_mem_cons.mpr ⟨ok_iconst hx hb dd_X8_layers_11 (by decide), ?_⟩
  refine List.forall_mem_cons.mpr ⟨ok_iload_n hx hb rfl dd_X8_layers_12, ?_⟩
  refine List.forall_mem_cons.mpr ⟨ok_iadd hx hb dd_X8_layers_13, ?_⟩
  refine List.forall_mem_cons.mpr ⟨ok_ald (ty := 0) rfl hx hb hK (Or.inl ⟨rfl, rfl, dd_X8_layers_14⟩), ?_⟩
  refine List.forall_mem_cons.mpr ⟨ok_goto hx hb dd_X8_layers_15 (by decide), ?_⟩
  refine List.forall_mem_cons.mpr ⟨ok_aload_n hx hb rfl dd_X8_layers_18, ?_⟩
  refine List.forall_mem_cons.mpr ⟨ok_bipush hx hb dd_X8_layers_19 (by decide), ?_⟩
  refine List.forall_mem_cons.mpr ⟨ok_callV (n := 1) zc_X8 rv_X8_bad C0 (h_X8_bad (d + 2) (by omega)) (by decide) wd_936 wd_933 wd_935 wd_62 wd_107 ⟨rfl, by decide +kernel, by decide +kernel, by decide +kernel⟩ dd_X8_layers_21, ?_⟩
  refine List.forall_mem_cons.mpr ⟨ok_iret hx hb hr hlocks hQ dd_X8_layers_24, ?_⟩
  exact fun _ h => absurd h List.not_mem_nil
set_option maxRecDepth 100000 in
theorem vc_X8_layers_0 {kd : Nat → Nat} {K : zK} {X : zX} (hX : ∀ (n pc : Nat) (ls : zLS) (st : List zV) (M : zM), zrun (tb_X8_layers kd K) [] n X pc ls st M → X pc ls st M) {c : Int32} {M : zM} (hk0 : kd 9 = 8) (h : ∀ v1 : Int32, (v1 = zp (isC c.toInt)) → ((v1 = 0) → ∀ v2 : Int32, (v2 = (-2 : Int32)) → ∀ M2 : zM, (M2 = zmw M 9 4 (upd (M.1 9 4) 0 (M.1 9 4 0 + 1))) → K (some (zI (v2))) M2) ∧ ((¬ v1 = 0) → (zin (kd 9) 1 0 ((0 : Int32) + c)) ∧ K (some (zI (M.1 9 1 ((0 : Int32) + c).toNatClampNeg))) M)) : X 0 [some (zR 9 0), some (zI (c))] [] M := hX 12 0 _ [] M (show ∀ v1 : Int32, (v1 = zp (isC c.toInt)) → ((v1 = 0) → (kd 9 = 8) ∧ ∀ v2 : Int32, (v2 = (-2 : Int32)) → ∀ M2 : zM, (M2 = zmw M 9 4 (upd (M.1 9 4) 0 (M.1 9 4 0 + 1))) → K (some (zI (v2))) M2) ∧ ((¬ v1 = 0) → (kd 9 = 8) ∧ (zin (kd 9) 1 0 ((0 : Int32) + c)) ∧ K (some (zI (M.1 9 1 ((0 : Int32) + c).toNatClampNeg))) M) from fun v1 => have h := h v1; fun q => have h := h q; ⟨fun q => have h := h.1 q; ⟨hk0, fun v2 => have h := h v2; fun q => have h := h q; fun M2 => have h := h M2; fun q => have h := h q; h⟩, fun q => have h := h.2 q; ⟨hk0, ⟨h.1, have h := h.2; h⟩⟩⟩)
def sp_X8_of : zSpec := fun kd as M K => match as with
  | [.inr (.inr (.inl (9, 0))), .inl c, .inl i, .inl w] => (kd 9 = 8) ∧ ∃ s : St, (RpM M s) ∧ ∀ v : Int32, (v.toInt = (ev_of s c.toInt i.toInt w.toInt).1) → ∀ M' : zM, (RpM M' (ev_of s c.toInt i.toInt w.toInt).2) → (fr0 M M') → K (some (.inl v)) M'
  | _ => False
theorem rv_X8_of : zrv sp_X8_of 8 3 := by
  intro kd as M K h
  unfold sp_X8_of at h
  split at h
  · exact ⟨_, _, rfl, h.1⟩
  · exact h.elim
theorem dd_X8_of_0 : decode cX8_of 0 = .ok (.aload_n 0, 1) := by decide +kernel
theorem dd_X8_of_1 : decode cX8_of 1 = .ok (.iload_n 1, 1) := by decide +kernel
theorem dd_X8_of_2 : decode cX8_of 2 = .ok (.iload_n 2, 1) := by decide +kernel
theorem dd_X8_of_3 : decode cX8_of 3 = .ok (.invokevirtual 109, 3) := by decide +kernel
theorem dd_X8_of_6 : decode cX8_of 6 = .ok (.ifCond .eq 29, 3) := by decide +kernel
theorem dd_X8_of_9 : decode cX8_of 9 = .ok (.iload_n 3, 1) := by decide +kernel
theorem dd_X8_of_10 : decode cX8_of 10 = .ok (.i2l, 1) := by decide +kernel
theorem dd_X8_of_11 : decode cX8_of 11 = .ok (.lconst 0, 1) := by decide +kernel
theorem dd_X8_of_12 : decode cX8_of 12 = .ok (.ldc2_w 58, 3) := by decide +kernel
theorem dd_X8_of_15 : decode cX8_of 15 = .ok (.invokestatic 54, 3) := by decide +kernel
theorem dd_X8_of_18 : decode cX8_of 18 = .ok (.ifCond .eq 17, 3) := by decide +kernel
theorem dd_X8_of_21 : decode cX8_of 21 = .ok (.aload_n 0, 1) := by decide +kernel
theorem dd_X8_of_22 : decode cX8_of 22 = .ok (.getfield 7, 3) := by decide +kernel
theorem dd_X8_of_25 : decode cX8_of 25 = .ok (.iload_n 1, 1) := by decide +kernel
theorem dd_X8_of_26 : decode cX8_of 26 = .ok (.iload_n 2, 1) := by decide +kernel
theorem dd_X8_of_27 : decode cX8_of 27 = .ok (.iload_n 3, 1) := by decide +kernel
theorem dd_X8_of_28 : decode cX8_of 28 = .ok (.invokestatic 62, 3) := by decide +kernel
theorem dd_X8_of_31 : decode cX8_of 31 = .ok (.iaload, 1) := by decide +kernel
theorem dd_X8_of_32 : decode cX8_of 32 = .ok (.goto 9, 3) := by decide +kernel
theorem dd_X8_of_35 : decode cX8_of 35 = .ok (.aload_n 0, 1) := by decide +kernel
theorem dd_X8_of_36 : decode cX8_of 36 = .ok (.bipush (-10), 2) := by decide +kernel
theorem dd_X8_of_38 : decode cX8_of 38 = .ok (.invokevirtual 81, 3) := by decide +kernel
theorem dd_X8_of_41 : decode cX8_of 41 = .ok (.ireturn, 1) := by decide +kernel
def tb_X8_of (kd : Nat → Nat) (K : zK) : zTab := [(0, zt_aload 0 1), (1, zt_iload 1 2), (2, zt_iload 2 3), (3, zt_call kd sp_X8_isLayer 3 6), (6, zt_if (fun x => x = 0) (fun x => ¬ x = 0) 35 9), (9, zt_iload 3 10), (10, zt_un (fun x => zL x.toInt64) 11), (11, zt_const (zL 0) 12), (12, zt_const (zL 4) 15), (15, zt_call kd sp_X8_in 3 18), (18, zt_if (fun x => x = 0) (fun x => ¬ x = 0) 35 21), (21, zt_aload 0 22), (22, zt_getR kd 8 0 1 25), (25, zt_iload 1 26), (26, zt_iload 2 27), (27, zt_iload 3 28), (28, zt_call kd sp_X8_at 3 31), (31, zt_ald kd 0 32), (32, zt_goto 41), (35, zt_aload 0 36), (36, zt_const (zI (-10)) 38), (38, zt_call kd sp_X8_bad 2 41), (41, zt_iret K)]
set_option maxRecDepth 20000 in
theorem tk_X8_of (d : Nat) (h_X8_isLayer : zMS 3 yX8_isLayer cX8_isLayer 3 (some .boolean) sp_X8_isLayer) (h_X8_in : zMS 1 yX8_in cX8_in 6 (some .boolean) sp_X8_in) (h_X8_at : zMS 1 yX8_at cX8_at 3 (some .int) sp_X8_at) (h_X8_bad : zMS 1 yX8_bad cX8_bad 2 (some .int) sp_X8_bad) : zTrue RX8 cX8_of 4 (some .int) (d + 4) (fun kd K => tb_X8_of kd K) := by
  intro p l e R s m args below meth c D cy A ad bl Qm K C0 hr hlocks hQ
  obtain ⟨hx, hb, hml, hown, hts, hK, hD, hA0, hN, hE, ⟨hR1, hR2⟩, hc1, hc2⟩ := id C0
  unfold tb_X8_of
  refine List.forall_mem_cons.mpr ⟨ok_aload_n hx hb rfl dd_X8_of_0, ?_⟩
  refine List.forall_mem_cons.mpr ⟨ok_iload_n hx hb rfl dd_X8_of_1, ?_⟩
  refine List.forall_mem_cons.mpr ⟨ok_iload_n hx hb rfl dd_X8_of_2, ?_⟩
  refine List.forall_mem_cons.mpr ⟨ok_callV (n := 2) zc_X8 rv_X8_isLayer C0 (h_X8_isLayer (d + 3) (by omega)) (by decide) wd_988 wd_985 wd_987 wd_66 wd_107 ⟨rfl, by decide +kernel, by decide +kernel, by decide +kernel⟩ dd_X8_of_3, ?_⟩
  refine List.forall_mem_cons.mpr ⟨ok_if_eq hx hb dd_X8_of_6 (by decide), ?_⟩
  refine List.forall_mem_cons.mpr ⟨ok_iload_n hx hb rfl dd_X8_of_9, ?_⟩
  refine List.forall_mem_cons.mpr ⟨ok_i2l hx hb dd_X8_of_10, ?_⟩
  refine List.forall_mem_cons.mpr ⟨ok_lconst hx hb dd_X8_of_11 (by decide), ?_⟩
  refine List.forall_mem_cons.mpr ⟨ok_ldc2 hx hb hown (hts _ wd_932) dd_X8_of_12, ?_⟩
  refine List.forall_mem_cons.mpr ⟨ok_callS (n := 3) C0 (h_X8_in (d + 3) (by omega)) (by decide) wd_928 wd_926 wd_927 wd_107 ⟨by decide +kernel, by decide +kernel, by decide +kernel⟩ dd_X8_of_15, ?_⟩
  refine List.forall_mem_cons.mpr ⟨ok_if_eq hx hb dd_X8_of_18 (by decide), ?_⟩
  refine List.forall_mem_cons.mpr ⟨ok_aload_n hx hb rfl dd_X8_of_21, ?_⟩
  refine List.forall_mem_cons.mpr ⟨ok_getR (j := 0) hx hb hts zi_X8 hown hK zc_X8 (by decide) rfl (fun t fl h => by cases h; rfl) (hts _ wd_840) dd_X8_of_22, ?_⟩
  refine List.forall_mem_cons.mpr ⟨ok_iload_n hx hb rfl dd_X8_of_25, ?_⟩
  refine List.forall_mem_cons.mpr ⟨ok_iload_n hx hb rfl dd_X8_of_26, ?_⟩
  refine List.forall_mem_cons.mpr ⟨ok_iload_n hx hb rfl dd_X8_of_27, ?_⟩
  refine List.forall_mem_cons.mpr ⟨ok_callS (n := 3) C0 (h_X8_at (d + 3) (by omega)) (by decide) wd_942 wd_940 wd_941 wd_107 ⟨by decide +kernel, by decide +kernel, by decide +kernel⟩ dd_X8_of_28, ?_⟩
  refine List.forall_mem_cons.mpr ⟨ok_ald (ty := 0) rfl hx hb hK (Or.inl ⟨rfl, rfl, dd_X8_of_31⟩), ?_⟩
  refine List.forall_mem_cons.mpr ⟨ok_goto hx hb dd_X8_of_32 (by decide), ?_⟩
  refine List.forall_mem_cons.mpr ⟨ok_aload_n hx hb rfl dd_X8_of_35, ?_⟩
  refine List.forall_mem_cons.mpr ⟨ok_bipush hx hb dd_X8_of_36 (by decide), ?_⟩
  refine List.forall_mem_cons.mpr ⟨ok_callV (n := 1) zc_X8 rv_X8_bad C0 (h_X8_bad (d + 3) (by omega)) (by decide) wd_936 wd_933 wd_935 wd_62 wd_107 ⟨rfl, by decide +kernel, by decide +kernel, by decide +kernel⟩ dd_X8_of_38, ?_⟩
  refine List.forall_mem_cons.mpr ⟨ok_iret hx hb hr hlocks hQ dd_X8_of_41, ?_⟩
  exact fun _ h => absurd h List.not_mem_nil
set_option maxRecDepth 100000 in
theorem vc_X8_of_0 {kd : Nat → Nat} {K : zK} {X : zX} (hX : ∀ (n pc : Nat) (ls : zLS) (st : List zV) (M : zM), zrun (tb_X8_of kd K) [] n X pc ls st M → X pc ls st M) {c : Int32} {i : Int32} {w : Int32} {M : zM} (hk0 : kd 9 = 8) (h : ∃ a1 : Sk, (RpF (M.1 9 1) a1) ∧ ∀ v1 : Int32, (v1 = zp ((sk_at a1 c.toInt i.toInt).isSome = true)) → ((v1 = 0) → ∀ v2 : Int32, (v2 = (-10 : Int32)) → ∀ M2 : zM, (M2 = zmw M 9 4 (upd (M.1 9 4) 0 (M.1 9 4 0 + 1))) → K (some (zI (v2))) M2) ∧ ((¬ v1 = 0) → ∀ v3 : Int32, (v3 = zp ((0 : Int64).toInt ≤ w.toInt64.toInt ∧ w.toInt64.toInt ≤ (4 : Int64).toInt)) → ((v3 = 0) → ∀ v4 : Int32, (v4 = (-10 : Int32)) → ∀ M4 : zM, (M4 = zmw M 9 4 (upd (M.1 9 4) 0 (M.1 9 4 0 + 1))) → K (some (zI (v4))) M4) ∧ ((¬ v3 = 0) → ((0 ≤ c.toInt ∧ c.toInt < 1000) ∧ (0 ≤ i.toInt ∧ i.toInt < 1000) ∧ 0 ≤ w.toInt ∧ w.toInt < 1000) ∧ ∀ v5 : Int32, (v5.toInt = 6 + 20 * c.toInt + 5 * i.toInt + w.toInt) → (zin (kd 9) 1 0 v5) ∧ K (some (zI (M.1 9 1 (v5).toNatClampNeg))) M))) : X 0 [some (zR 9 0), some (zI (c)), some (zI (i)), some (zI (w))] [] M := hX 21 0 _ [] M (show (kd 9 = 8) ∧ ∃ a1 : Sk, (RpF (M.1 9 1) a1) ∧ ∀ v1 : Int32, (v1 = zp ((sk_at a1 c.toInt i.toInt).isSome = true)) → ((v1 = 0) → (kd 9 = 8) ∧ ∀ v2 : Int32, (v2 = (-10 : Int32)) → ∀ M2 : zM, (M2 = zmw M 9 4 (upd (M.1 9 4) 0 (M.1 9 4 0 + 1))) → K (some (zI (v2))) M2) ∧ ((¬ v1 = 0) → ∀ v3 : Int32, (v3 = zp ((0 : Int64).toInt ≤ w.toInt64.toInt ∧ w.toInt64.toInt ≤ (4 : Int64).toInt)) → ((v3 = 0) → (kd 9 = 8) ∧ ∀ v4 : Int32, (v4 = (-10 : Int32)) → ∀ M4 : zM, (M4 = zmw M 9 4 (upd (M.1 9 4) 0 (M.1 9 4 0 + 1))) → K (some (zI (v4))) M4) ∧ ((¬ v3 = 0) → (kd 9 = 8) ∧ ((0 ≤ c.toInt ∧ c.toInt < 1000) ∧ (0 ≤ i.toInt ∧ i.toInt < 1000) ∧ 0 ≤ w.toInt ∧ w.toInt < 1000) ∧ ∀ v5 : Int32, (v5.toInt = 6 + 20 * c.toInt + 5 * i.toInt + w.toInt) → (zin (kd 9) 1 0 v5) ∧ K (some (zI (M.1 9 1 (v5).toNatClampNeg))) M)) from ⟨hk0, h.elim (fun a1 h => ⟨a1, ⟨h.1, have h := h.2; fun v1 => have h := h v1; fun q => have h := h q; ⟨fun q => have h := h.1 q; ⟨hk0, fun v2 => have h := h v2; fun q => have h := h q; fun M2 => have h := h M2; fun q => have h := h q; h⟩, fun q => have h := h.2 q; fun v3 => have h := h v3; fun q => have h := h q; ⟨fun q => have h := h.1 q; ⟨hk0, fun v4 => have h := h v4; fun q => have h := h q; fun M4 => have h := h M4; fun q => have h := h q; h⟩, fun q => have h := h.2 q; ⟨hk0, ⟨h.1, have h := h.2; fun v5 => have h := h v5; fun q => have h := h q; ⟨h.1, have h := h.2; h⟩⟩⟩⟩⟩⟩⟩)⟩)
def sp_X8_type : zSpec := fun kd as M K => match as with
  | [.inr (.inr (.inl (9, 0))), .inl c] => (kd 9 = 8) ∧ ∃ s : St, (RpM M s) ∧ ∀ v : Int32, (v.toInt = (ev_type s c.toInt).1) → ∀ M' : zM, (RpM M' (ev_type s c.toInt).2) → (fr0 M M') → K (some (.inl v)) M'
  | _ => False
theorem rv_X8_type : zrv sp_X8_type 8 1 := by
  intro kd as M K h
  unfold sp_X8_type at h
  split at h
  · exact ⟨_, _, rfl, h.1⟩
  · exact h.elim
theorem dd_X8_type_0 : decode cX8_type 0 = .ok (.iload_n 1, 1) := by decide +kernel
theorem dd_X8_type_1 : decode cX8_type 1 = .ok (.i2l, 1) := by decide +kernel
theorem dd_X8_type_2 : decode cX8_type 2 = .ok (.lconst 0, 1) := by decide +kernel
theorem dd_X8_type_3 : decode cX8_type 3 = .ok (.ldc2_w 243, 3) := by decide +kernel
theorem dd_X8_type_6 : decode cX8_type 6 = .ok (.invokestatic 54, 3) := by decide +kernel
theorem dd_X8_type_9 : decode cX8_type 9 = .ok (.ifCond .ne 10, 3) := by decide +kernel
theorem dd_X8_type_12 : decode cX8_type 12 = .ok (.aload_n 0, 1) := by decide +kernel
theorem dd_X8_type_13 : decode cX8_type 13 = .ok (.bipush (-2), 2) := by decide +kernel
theorem dd_X8_type_15 : decode cX8_type 15 = .ok (.invokevirtual 81, 3) := by decide +kernel
theorem dd_X8_type_18 : decode cX8_type 18 = .ok (.ireturn, 1) := by decide +kernel
theorem dd_X8_type_19 : decode cX8_type 19 = .ok (.aload_n 0, 1) := by decide +kernel
theorem dd_X8_type_20 : decode cX8_type 20 = .ok (.getfield 245, 3) := by decide +kernel
theorem dd_X8_type_23 : decode cX8_type 23 = .ok (.sipush 150, 3) := by decide +kernel
theorem dd_X8_type_26 : decode cX8_type 26 = .ok (.if_icmp .ne 8, 3) := by decide +kernel
theorem dd_X8_type_29 : decode cX8_type 29 = .ok (.aload_n 0, 1) := by decide +kernel
theorem dd_X8_type_30 : decode cX8_type 30 = .ok (.invokevirtual 89, 3) := by decide +kernel
theorem dd_X8_type_33 : decode cX8_type 33 = .ok (.ireturn, 1) := by decide +kernel
theorem dd_X8_type_34 : decode cX8_type 34 = .ok (.aload_n 0, 1) := by decide +kernel
theorem dd_X8_type_35 : decode cX8_type 35 = .ok (.getfield 39, 3) := by decide +kernel
theorem dd_X8_type_38 : decode cX8_type 38 = .ok (.aload_n 0, 1) := by decide +kernel
theorem dd_X8_type_39 : decode cX8_type 39 = .ok (.getfield 245, 3) := by decide +kernel
theorem dd_X8_type_42 : decode cX8_type 42 = .ok (.iload_n 1, 1) := by decide +kernel
theorem dd_X8_type_43 : decode cX8_type 43 = .ok (.iastore, 1) := by decide +kernel
theorem dd_X8_type_44 : decode cX8_type 44 = .ok (.aload_n 0, 1) := by decide +kernel
theorem dd_X8_type_45 : decode cX8_type 45 = .ok (.dup, 1) := by decide +kernel
theorem dd_X8_type_46 : decode cX8_type 46 = .ok (.getfield 245, 3) := by decide +kernel
theorem dd_X8_type_49 : decode cX8_type 49 = .ok (.iconst 1, 1) := by decide +kernel
theorem dd_X8_type_50 : decode cX8_type 50 = .ok (.iadd, 1) := by decide +kernel
theorem dd_X8_type_51 : decode cX8_type 51 = .ok (.putfield 245, 3) := by decide +kernel
theorem dd_X8_type_54 : decode cX8_type 54 = .ok (.aload_n 0, 1) := by decide +kernel
theorem dd_X8_type_55 : decode cX8_type 55 = .ok (.getfield 245, 3) := by decide +kernel
theorem dd_X8_type_58 : decode cX8_type 58 = .ok (.ireturn, 1) := by decide +kernel
def tb_X8_type (kd : Nat → Nat) (K : zK) : zTab := [(0, zt_iload 1 1), (1, zt_un (fun x => zL x.toInt64) 2), (2, zt_const (zL 0) 3), (3, zt_const (zL 127) 6), (6, zt_call kd sp_X8_in 3 9), (9, zt_if (fun x => ¬ x = 0) (fun x => x = 0) 19 12), (12, zt_aload 0 13), (13, zt_const (zI (-2)) 15), (15, zt_call kd sp_X8_bad 2 18), (18, zt_iret K), (19, zt_aload 0 20), (20, zt_getI kd 8 16 23), (23, zt_const (zI 150) 26), (26, zt_icmp (fun x y => ¬ x = y) (fun x y => x = y) 34 29), (29, zt_aload 0 30), (30, zt_call kd sp_X8_full 1 33), (33, zt_iret K), (34, zt_aload 0 35), (35, zt_getR kd 8 0 9 38), (38, zt_aload 0 39), (39, zt_getI kd 8 16 42), (42, zt_iload 1 43), (43, zt_ast kd 0 44), (44, zt_aload 0 45), (45, zt_dup 46), (46, zt_getI kd 8 16 49), (49, zt_const (zI 1) 50), (50, zt_bin (fun x y => x + y) 51), (51, zt_putI kd 8 16 54), (54, zt_aload 0 55), (55, zt_getI kd 8 16 58), (58, zt_iret K)]
set_option maxRecDepth 20000 in
theorem tk_X8_type (d : Nat) (h_X8_in : zMS 1 yX8_in cX8_in 6 (some .boolean) sp_X8_in) (h_X8_bad : zMS 1 yX8_bad cX8_bad 2 (some .int) sp_X8_bad) (h_X8_full : zMS 1 yX8_full cX8_full 1 (some .int) sp_X8_full) : zTrue RX8 cX8_type 2 (some .int) (d + 2) (fun kd K => tb_X8_type kd K) := by
  intro p l e R s m args below meth c D cy A ad bl Qm K C0 hr hlocks hQ
  obtain ⟨hx, hb, hml, hown, hts, hK, hD, hA0, hN, hE, ⟨hR1, hR2⟩, hc1, hc2⟩ := id C0
  unfold tb_X8_type
  refine List.forall_mem_cons.mpr ⟨ok_iload_n hx hb rfl dd_X8_type_0, ?_⟩
  refine List.forall_mem_cons.mpr ⟨ok_i2l hx hb dd_X8_type_1, ?_⟩
  refine List.forall_mem_cons.mpr ⟨ok_lconst hx hb dd_X8_type_2 (by decide), ?_⟩
  refine List.forall_mem_cons.mpr ⟨ok_ldc2 hx hb hown (hts _ wd_1160) dd_X8_type_3, ?_⟩
  refine List.forall_mem_cons.mpr ⟨ok_callS (n := 3) C0 (h_X8_in (d + 1) (by omega)) (by decide) wd_928 wd_926 wd_927 wd_107 ⟨by decide +kernel, by decide +kernel, by decide +kernel⟩ dd_X8_type_6, ?_⟩
  refine List.forall_mem_cons.mpr ⟨ok_if_ne hx hb dd_X8_type_9 (by decide), ?_⟩
  refine List.forall_mem_cons.mpr ⟨ok_aload_n hx hb rfl dd_X8_type_12, ?_⟩
  refine List.forall_mem_cons.mpr ⟨ok_bipush hx hb dd_X8_type_13 (by decide), ?_⟩
  refine List.forall_mem_cons.mpr ⟨ok_callV (n := 1) zc_X8 rv_X8_bad C0 (h_X8_bad (d + 1) (by omega)) (by decide) wd_936 wd_933 wd_935 wd_62 wd_107 ⟨rfl, by decide +kernel, by decide +kernel, by decide +kernel⟩ dd_X8_type_15, ?_⟩
  refine List.forall_mem_cons.mpr ⟨ok_iret hx hb hr hlocks hQ dd_X8_type_18, ?_⟩
  refine List.forall_mem_cons.mpr ⟨ok_aload_n hx hb rfl dd_X8_type_19, ?_⟩
  refine List.forall_mem_cons.mpr ⟨ok_getI (j := 16) hx hb hts zi_X8 hown hK zc_X8 (by decide) rfl (fun t fl h => by cases h; rfl) (hts _ wd_856) dd_X8_type_20, ?_⟩
  refine List.forall_mem_cons.mpr ⟨ok_sipush hx hb dd_X8_type_23 (by decide), ?_⟩
  refine List.forall_mem_cons.mpr ⟨ok_icmp_ne hx hb dd_X8_type_26 (by decide), ?_⟩
  refine List.forall_mem_cons.mpr ⟨ok_aload_n hx hb rfl dd_X8_type_29, ?_⟩
  refine List.forall_mem_cons.mpr ⟨ok_callV (n := 0) zc_X8 rv_X8_full C0 (h_X8_full (d + 1) (by omega)) (by decide) wd_950 wd_947 wd_949 wd_64 wd_107 ⟨rfl, by decide +kernel, by decide +kernel, by decide +kernel⟩ dd_X8_type_30, ?_⟩
  refine List.forall_mem_cons.mpr ⟨ok_iret hx hb hr hlocks hQ dd_X8_type_33, ?_⟩
  refine List.forall_mem_cons.mpr ⟨ok_aload_n hx hb rfl dd_X8_type_34, ?_⟩
  refine List.forall_mem_cons.mpr ⟨ok_getR (j := 15) hx hb hts zi_X8 hown hK zc_X8 (by decide) rfl (fun t fl h => by cases h; rfl) (hts _ wd_855) dd_X8_type_35, ?_⟩
  refine List.forall_mem_cons.mpr ⟨ok_aload_n hx hb rfl dd_X8_type_38, ?_⟩
  refine List.forall_mem_cons.mpr ⟨ok_getI (j := 16) hx hb hts zi_X8 hown hK zc_X8 (by decide) rfl (fun t fl h => by cases h; rfl) (hts _ wd_856) dd_X8_type_39, ?_⟩
  refine List.forall_mem_cons.mpr ⟨ok_iload_n hx hb rfl dd_X8_type_42, ?_⟩
  refine List.forall_mem_cons.mpr ⟨ok_ast (ty := 0) rfl hx hb hK hD (Or.inl ⟨rfl, rfl, dd_X8_type_43⟩), ?_⟩
  refine List.forall_mem_cons.mpr ⟨ok_aload_n hx hb rfl dd_X8_type_44, ?_⟩
  refine List.forall_mem_cons.mpr ⟨ok_dup hx hb dd_X8_type_45, ?_⟩
  refine List.forall_mem_cons.mpr ⟨ok_getI (j := 16) hx hb hts zi_X8 hown hK zc_X8 (by decide) rfl (fun t fl h => by cases h; rfl) (hts _ wd_856) dd_X8_type_46, ?_⟩
  refine List.forall_mem_cons.mpr ⟨ok_iconst hx hb dd_X8_type_49 (by decide), ?_⟩
  refine List.forall_mem_cons.mpr ⟨ok_iadd hx hb dd_X8_type_50, ?_⟩
  refine List.forall_mem_cons.mpr ⟨ok_putI (j := 16) hx hb hts zi_X8 tyX8 tyX8_ok nmX8 hown hK hD zc_X8 (by decide) rfl rfl (by decide +kernel) (fun t fl h => by cases h; rfl) (hts _ wd_856) dd_X8_type_51, ?_⟩
  refine List.forall_mem_cons.mpr ⟨ok_aload_n hx hb rfl dd_X8_type_54, ?_⟩
  refine List.forall_mem_cons.mpr ⟨ok_getI (j := 16) hx hb hts zi_X8 hown hK zc_X8 (by decide) rfl (fun t fl h => by cases h; rfl) (hts _ wd_856) dd_X8_type_55, ?_⟩
  refine List.forall_mem_cons.mpr ⟨ok_iret hx hb hr hlocks hQ dd_X8_type_58, ?_⟩
  exact fun _ h => absurd h List.not_mem_nil
set_option maxRecDepth 100000 in
theorem vc_X8_type_0 {kd : Nat → Nat} {K : zK} {X : zX} (hX : ∀ (n pc : Nat) (ls : zLS) (st : List zV) (M : zM), zrun (tb_X8_type kd K) [] n X pc ls st M → X pc ls st M) {c : Int32} {M : zM} (hk0 : kd 9 = 8) (h : ∀ v1 : Int32, (v1 = zp ((0 : Int64).toInt ≤ c.toInt64.toInt ∧ c.toInt64.toInt ≤ (127 : Int64).toInt)) → ((¬ v1 = 0) → ((¬ (M.1 9 0 16) = (150 : Int32)) → (zin (kd 9) 9 0 (M.1 9 0 16)) ∧ ∀ M2 : zM, (M2 = zmw M 9 9 (upd (M.1 9 9) (M.1 9 0 16).toNatClampNeg c)) → ∀ M3 : zM, (M3 = zmw M2 9 0 (upd (M2.1 9 0) 16 ((M2.1 9 0 16) + (1 : Int32)))) → K (some (zI (M3.1 9 0 16))) M3) ∧ (((M.1 9 0 16) = (150 : Int32)) → ∀ v4 : Int32, (v4.toInt = -4) → ∀ M4 : zM, (M4 = zmw M 9 4 (upd (M.1 9 4) 2 (M.1 9 4 2 + 1))) → K (some (zI (v4))) M4)) ∧ ((v1 = 0) → ∀ v5 : Int32, (v5 = (-2 : Int32)) → ∀ M5 : zM, (M5 = zmw M 9 4 (upd (M.1 9 4) 0 (M.1 9 4 0 + 1))) → K (some (zI (v5))) M5)) : X 0 [some (zR 9 0), some (zI (c))] [] M := hX 26 0 _ [] M (show ∀ v1 : Int32, (v1 = zp ((0 : Int64).toInt ≤ c.toInt64.toInt ∧ c.toInt64.toInt ≤ (127 : Int64).toInt)) → ((¬ v1 = 0) → (kd 9 = 8) ∧ ((¬ (M.1 9 0 16) = (150 : Int32)) → (kd 9 = 8) ∧ (kd 9 = 8) ∧ (zin (kd 9) 9 0 (M.1 9 0 16)) ∧ ∀ M2 : zM, (M2 = zmw M 9 9 (upd (M.1 9 9) (M.1 9 0 16).toNatClampNeg c)) → (kd 9 = 8) ∧ (kd 9 = 8) ∧ ∀ M3 : zM, (M3 = zmw M2 9 0 (upd (M2.1 9 0) 16 ((M2.1 9 0 16) + (1 : Int32)))) → (kd 9 = 8) ∧ K (some (zI (M3.1 9 0 16))) M3) ∧ (((M.1 9 0 16) = (150 : Int32)) → (kd 9 = 8) ∧ ∀ v4 : Int32, (v4.toInt = -4) → ∀ M4 : zM, (M4 = zmw M 9 4 (upd (M.1 9 4) 2 (M.1 9 4 2 + 1))) → K (some (zI (v4))) M4)) ∧ ((v1 = 0) → (kd 9 = 8) ∧ ∀ v5 : Int32, (v5 = (-2 : Int32)) → ∀ M5 : zM, (M5 = zmw M 9 4 (upd (M.1 9 4) 0 (M.1 9 4 0 + 1))) → K (some (zI (v5))) M5) from fun v1 => have h := h v1; fun q => have h := h q; ⟨fun q => have h := h.1 q; ⟨hk0, ⟨fun q => have h := h.1 q; ⟨hk0, ⟨hk0, ⟨h.1, have h := h.2; fun M2 => have h := h M2; fun q => have h := h q; ⟨hk0, ⟨hk0, fun M3 => have h := h M3; fun q => have h := h q; ⟨hk0, h⟩⟩⟩⟩⟩⟩, fun q => have h := h.2 q; ⟨hk0, fun v4 => have h := h v4; fun q => have h := h q; fun M4 => have h := h M4; fun q => have h := h q; h⟩⟩⟩, fun q => have h := h.2 q; ⟨hk0, fun v5 => have h := h v5; fun q => have h := h q; fun M5 => have h := h M5; fun q => have h := h q; h⟩⟩)
def sp_X8_clear : zSpec := fun kd as M K => match as with
  | [.inr (.inr (.inl (9, 0)))] => (kd 9 = 8) ∧ ∃ s : St, (RpM M s) ∧ ∀ v : Int32, (v.toInt = (ev_clear s).1) → ∀ M' : zM, (RpM M' (ev_clear s).2) → (fr0 M M') → K (some (.inl v)) M'
  | _ => False
theorem rv_X8_clear : zrv sp_X8_clear 8 0 := by
  intro kd as M K h
  unfold sp_X8_clear at h
  split at h
  · exact ⟨_, _, rfl, h.1⟩
  · exact h.elim
theorem dd_X8_clear_0 : decode cX8_clear 0 = .ok (.aload_n 0, 1) := by decide +kernel
theorem dd_X8_clear_1 : decode cX8_clear 1 = .ok (.getfield 245, 3) := by decide +kernel
theorem dd_X8_clear_4 : decode cX8_clear 4 = .ok (.istore_n 1, 1) := by decide +kernel
theorem dd_X8_clear_5 : decode cX8_clear 5 = .ok (.aload_n 0, 1) := by decide +kernel
theorem dd_X8_clear_6 : decode cX8_clear 6 = .ok (.iconst 0, 1) := by decide +kernel
theorem dd_X8_clear_7 : decode cX8_clear 7 = .ok (.putfield 245, 3) := by decide +kernel
theorem dd_X8_clear_10 : decode cX8_clear 10 = .ok (.iload_n 1, 1) := by decide +kernel
theorem dd_X8_clear_11 : decode cX8_clear 11 = .ok (.ireturn, 1) := by decide +kernel
def tb_X8_clear (kd : Nat → Nat) (K : zK) : zTab := [(0, zt_aload 0 1), (1, zt_getI kd 8 16 4), (4, zt_istore 1 5), (5, zt_aload 0 6), (6, zt_const (zI 0) 7), (7, zt_putI kd 8 16 10), (10, zt_iload 1 11), (11, zt_iret K)]
set_option maxRecDepth 20000 in
theorem tk_X8_clear (d : Nat)  : zTrue RX8 cX8_clear 2 (some .int) (d + 1) (fun kd K => tb_X8_clear kd K) := by
  intro p l e R s m args below meth c D cy A ad bl Qm K C0 hr hlocks hQ
  obtain ⟨hx, hb, hml, hown, hts, hK, hD, hA0, hN, hE, ⟨hR1, hR2⟩, hc1, hc2⟩ := id C0
  unfold tb_X8_clear
  refine List.forall_mem_cons.mpr ⟨ok_aload_n hx hb rfl dd_X8_clear_0, ?_⟩
  refine List.forall_mem_cons.mpr ⟨ok_getI (j := 16) hx hb hts zi_X8 hown hK zc_X8 (by decide) rfl (fun t fl h => by cases h; rfl) (hts _ wd_856) dd_X8_clear_1, ?_⟩
  refine List.forall_mem_cons.mpr ⟨ok_istore_n hx hb rfl dd_X8_clear_4, ?_⟩
  refine List.forall_mem_cons.mpr ⟨ok_aload_n hx hb rfl dd_X8_clear_5, ?_⟩
  refine List.forall_mem_cons.mpr ⟨ok_iconst hx hb dd_X8_clear_6 (by decide), ?_⟩
  refine List.forall_mem_cons.mpr ⟨ok_putI (j := 16) hx hb hts zi_X8 tyX8 tyX8_ok nmX8 hown hK hD zc_X8 (by decide) rfl rfl (by decide +kernel) (fun t fl h => by cases h; rfl) (hts _ wd_856) dd_X8_clear_7, ?_⟩
  refine List.forall_mem_cons.mpr ⟨ok_iload_n hx hb rfl dd_X8_clear_10, ?_⟩
  refine List.forall_mem_cons.mpr ⟨ok_iret hx hb hr hlocks hQ dd_X8_clear_11, ?_⟩
  exact fun _ h => absurd h List.not_mem_nil
set_option maxRecDepth 100000 in
theorem vc_X8_clear_0 {kd : Nat → Nat} {K : zK} {X : zX} (hX : ∀ (n pc : Nat) (ls : zLS) (st : List zV) (M : zM), zrun (tb_X8_clear kd K) [] n X pc ls st M → X pc ls st M)  {M : zM} (hk0 : kd 9 = 8) (h : ∀ M1 : zM, (M1 = zmw M 9 0 (upd (M.1 9 0) 16 (0 : Int32))) → K (some (zI (M.1 9 0 16))) M1) : X 0 [some (zR 9 0), none] [] M := hX 9 0 _ [] M (show (kd 9 = 8) ∧ (kd 9 = 8) ∧ ∀ M1 : zM, (M1 = zmw M 9 0 (upd (M.1 9 0) 16 (0 : Int32))) → K (some (zI (M.1 9 0 16))) M1 from ⟨hk0, ⟨hk0, fun M1 => have h := h M1; fun q => have h := h q; h⟩⟩)
def sp_X8_forget : zSpec := fun kd as M K => match as with
  | [.inr (.inr (.inl (9, 0)))] => (kd 9 = 8) ∧ ∃ s : St, (RpM M s) ∧ ∀ v : Int32, (v.toInt = (ev_forget s).1) → ∀ M' : zM, (RpM M' (ev_forget s).2) → (fr0 M M') → K (some (.inl v)) M'
  | _ => False
theorem rv_X8_forget : zrv sp_X8_forget 8 0 := by
  intro kd as M K h
  unfold sp_X8_forget at h
  split at h
  · exact ⟨_, _, rfl, h.1⟩
  · exact h.elim
theorem dd_X8_forget_0 : decode cX8_forget 0 = .ok (.aload_n 0, 1) := by decide +kernel
theorem dd_X8_forget_1 : decode cX8_forget 1 = .ok (.getfield 7, 3) := by decide +kernel
theorem dd_X8_forget_4 : decode cX8_forget 4 = .ok (.bipush 127, 2) := by decide +kernel
theorem dd_X8_forget_6 : decode cX8_forget 6 = .ok (.iaload, 1) := by decide +kernel
theorem dd_X8_forget_7 : decode cX8_forget 7 = .ok (.istore_n 1, 1) := by decide +kernel
theorem dd_X8_forget_8 : decode cX8_forget 8 = .ok (.aload_n 0, 1) := by decide +kernel
theorem dd_X8_forget_9 : decode cX8_forget 9 = .ok (.getfield 7, 3) := by decide +kernel
theorem dd_X8_forget_12 : decode cX8_forget 12 = .ok (.bipush 127, 2) := by decide +kernel
theorem dd_X8_forget_14 : decode cX8_forget 14 = .ok (.iconst 0, 1) := by decide +kernel
theorem dd_X8_forget_15 : decode cX8_forget 15 = .ok (.iastore, 1) := by decide +kernel
theorem dd_X8_forget_16 : decode cX8_forget 16 = .ok (.iload_n 1, 1) := by decide +kernel
theorem dd_X8_forget_17 : decode cX8_forget 17 = .ok (.ireturn, 1) := by decide +kernel
def tb_X8_forget (kd : Nat → Nat) (K : zK) : zTab := [(0, zt_aload 0 1), (1, zt_getR kd 8 0 1 4), (4, zt_const (zI 127) 6), (6, zt_ald kd 0 7), (7, zt_istore 1 8), (8, zt_aload 0 9), (9, zt_getR kd 8 0 1 12), (12, zt_const (zI 127) 14), (14, zt_const (zI 0) 15), (15, zt_ast kd 0 16), (16, zt_iload 1 17), (17, zt_iret K)]
set_option maxRecDepth 20000 in
theorem tk_X8_forget (d : Nat)  : zTrue RX8 cX8_forget 2 (some .int) (d + 1) (fun kd K => tb_X8_forget kd K) := by
  intro p l e R s m args below meth c D cy A ad bl Qm K C0 hr hlocks hQ
  obtain ⟨hx, hb, hml, hown, hts, hK, hD, hA0, hN, hE, ⟨hR1, hR2⟩, hc1, hc2⟩ := id C0
  unfold tb_X8_forget
  refine List.forall_mem_cons.mpr ⟨ok_aload_n hx hb rfl dd_X8_forget_0, ?_⟩
  refine List.forall_mem_cons.mpr ⟨ok_getR (j := 0) hx hb hts zi_X8 hown hK zc_X8 (by decide) rfl (fun t fl h => by cases h; rfl) (hts _ wd_840) dd_X8_forget_1, ?_⟩
  refine List.forall_mem_cons.mpr ⟨ok_bipush hx hb dd_X8_forget_4 (by decide), ?_⟩
  refine List.forall_mem_cons.mpr ⟨ok_ald (ty := 0) rfl hx hb hK (Or.inl ⟨rfl, rfl, dd_X8_forget_6⟩), ?_⟩
  refine List.forall_mem_cons.mpr ⟨ok_istore_n hx hb rfl dd_X8_forget_7, ?_⟩
  refine List.forall_mem_cons.mpr ⟨ok_aload_n hx hb rfl dd_X8_forget_8, ?_⟩
  refine List.forall_mem_cons.mpr ⟨ok_getR (j := 0) hx hb hts zi_X8 hown hK zc_X8 (by decide) rfl (fun t fl h => by cases h; rfl) (hts _ wd_840) dd_X8_forget_9, ?_⟩
  refine List.forall_mem_cons.mpr ⟨ok_bipush hx hb dd_X8_forget_12 (by decide), ?_⟩
  refine List.forall_mem_cons.mpr ⟨ok_iconst hx hb dd_X8_forget_14 (by decide), ?_⟩
  refine List.forall_mem_cons.mpr ⟨ok_ast (ty := 0) rfl hx hb hK hD (Or.inl ⟨rfl, rfl, dd_X8_forget_15⟩), ?_⟩
  refine List.forall_mem_cons.mpr ⟨ok_iload_n hx hb rfl dd_X8_forget_16, ?_⟩
  refine List.forall_mem_cons.mpr ⟨ok_iret hx hb hr hlocks hQ dd_X8_forget_17, ?_⟩
  exact fun _ h => absurd h List.not_mem_nil
set_option maxRecDepth 100000 in
theorem vc_X8_forget_0 {kd : Nat → Nat} {K : zK} {X : zX} (hX : ∀ (n pc : Nat) (ls : zLS) (st : List zV) (M : zM), zrun (tb_X8_forget kd K) [] n X pc ls st M → X pc ls st M)  {M : zM} (hk0 : kd 9 = 8) (h : (zin (kd 9) 1 0 (127 : Int32)) ∧ (zin (kd 9) 1 0 (127 : Int32)) ∧ ∀ M1 : zM, (M1 = zmw M 9 1 (upd (M.1 9 1) ((127 : Int32)).toNatClampNeg (0 : Int32))) → K (some (zI (M.1 9 1 ((127 : Int32)).toNatClampNeg))) M1) : X 0 [some (zR 9 0), none] [] M := hX 13 0 _ [] M (show (kd 9 = 8) ∧ (zin (kd 9) 1 0 (127 : Int32)) ∧ (kd 9 = 8) ∧ (zin (kd 9) 1 0 (127 : Int32)) ∧ ∀ M1 : zM, (M1 = zmw M 9 1 (upd (M.1 9 1) ((127 : Int32)).toNatClampNeg (0 : Int32))) → K (some (zI (M.1 9 1 ((127 : Int32)).toNatClampNeg))) M1 from ⟨hk0, ⟨h.1, have h := h.2; ⟨hk0, ⟨h.1, have h := h.2; fun M1 => have h := h M1; fun q => have h := h q; h⟩⟩⟩⟩)
def sp_X8_status : zSpec := fun kd as M K => match as with
  | [.inr (.inr (.inl (9, 0))), .inl w] => (kd 9 = 8) ∧ ∃ s : St, (RpM M s) ∧ ∀ v : Int32, (v.toInt = (ev_status s w.toInt).1) → ∀ M' : zM, (RpM M' (ev_status s w.toInt).2) → (fr0 M M') → K (some (.inl v)) M'
  | _ => False
theorem rv_X8_status : zrv sp_X8_status 8 1 := by
  intro kd as M K h
  unfold sp_X8_status at h
  split at h
  · exact ⟨_, _, rfl, h.1⟩
  · exact h.elim
theorem dd_X8_status_0 : decode cX8_status 0 = .ok (.iload_n 1, 1) := by decide +kernel
theorem dd_X8_status_1 : decode cX8_status 1 = .ok (.i2l, 1) := by decide +kernel
theorem dd_X8_status_2 : decode cX8_status 2 = .ok (.lconst 0, 1) := by decide +kernel
theorem dd_X8_status_3 : decode cX8_status 3 = .ok (.ldc2_w 180, 3) := by decide +kernel
theorem dd_X8_status_6 : decode cX8_status 6 = .ok (.invokestatic 54, 3) := by decide +kernel
theorem dd_X8_status_9 : decode cX8_status 9 = .ok (.ifCond .eq 12, 3) := by decide +kernel
theorem dd_X8_status_12 : decode cX8_status 12 = .ok (.aload_n 0, 1) := by decide +kernel
theorem dd_X8_status_13 : decode cX8_status 13 = .ok (.getfield 20, 3) := by decide +kernel
theorem dd_X8_status_16 : decode cX8_status 16 = .ok (.iload_n 1, 1) := by decide +kernel
theorem dd_X8_status_17 : decode cX8_status 17 = .ok (.iaload, 1) := by decide +kernel
theorem dd_X8_status_18 : decode cX8_status 18 = .ok (.goto 8, 3) := by decide +kernel
theorem dd_X8_status_21 : decode cX8_status 21 = .ok (.aload_n 0, 1) := by decide +kernel
theorem dd_X8_status_22 : decode cX8_status 22 = .ok (.iconst (-1), 1) := by decide +kernel
theorem dd_X8_status_23 : decode cX8_status 23 = .ok (.invokevirtual 81, 3) := by decide +kernel
theorem dd_X8_status_26 : decode cX8_status 26 = .ok (.ireturn, 1) := by decide +kernel
def tb_X8_status (kd : Nat → Nat) (K : zK) : zTab := [(0, zt_iload 1 1), (1, zt_un (fun x => zL x.toInt64) 2), (2, zt_const (zL 0) 3), (3, zt_const (zL 2) 6), (6, zt_call kd sp_X8_in 3 9), (9, zt_if (fun x => x = 0) (fun x => ¬ x = 0) 21 12), (12, zt_aload 0 13), (13, zt_getR kd 8 0 4 16), (16, zt_iload 1 17), (17, zt_ald kd 0 18), (18, zt_goto 26), (21, zt_aload 0 22), (22, zt_const (zI (-1)) 23), (23, zt_call kd sp_X8_bad 2 26), (26, zt_iret K)]
set_option maxRecDepth 20000 in
theorem tk_X8_status (d : Nat) (h_X8_in : zMS 1 yX8_in cX8_in 6 (some .boolean) sp_X8_in) (h_X8_bad : zMS 1 yX8_bad cX8_bad 2 (some .int) sp_X8_bad) : zTrue RX8 cX8_status 2 (some .int) (d + 2) (fun kd K => tb_X8_status kd K) := by
  intro p l e R s m args below meth c D cy A ad bl Qm K C0 hr hlocks hQ
  obtain ⟨hx, hb, hml, hown, hts, hK, hD, hA0, hN, hE, ⟨hR1, hR2⟩, hc1, hc2⟩ := id C0
  unfold tb_X8_status
  refine List.forall_mem_cons.mpr ⟨ok_iload_n hx hb rfl dd_X8_status_0, ?_⟩
  refine List.forall_mem_cons.mpr ⟨ok_i2l hx hb dd_X8_status_1, ?_⟩
  refine List.forall_mem_cons.mpr ⟨ok_lconst hx hb dd_X8_status_2 (by decide), ?_⟩
  refine List.forall_mem_cons.mpr ⟨ok_ldc2 hx hb hown (hts _ wd_1054) dd_X8_status_3, ?_⟩
  refine List.forall_mem_cons.mpr ⟨ok_callS (n := 3) C0 (h_X8_in (d + 1) (by omega)) (by decide) wd_928 wd_926 wd_927 wd_107 ⟨by decide +kernel, by decide +kernel, by decide +kernel⟩ dd_X8_status_6, ?_⟩
  refine List.forall_mem_cons.mpr ⟨ok_if_eq hx hb dd_X8_status_9 (by decide), ?_⟩
  refine List.forall_mem_cons.mpr ⟨ok_aload_n hx hb rfl dd_X8_status_12, ?_⟩
  refine List.forall_mem_cons.mpr ⟨ok_getR (j := 3) hx hb hts zi_X8 hown hK zc_X8 (by decide) rfl (fun t fl h => by cases h; rfl) (hts _ wd_843) dd_X8_status_13, ?_⟩
  refine List.forall_mem_cons.mpr ⟨ok_iload_n hx hb rfl dd_X8_status_16, ?_⟩
  refine List.forall_mem_cons.mpr ⟨ok_ald (ty := 0) rfl hx hb hK (Or.inl ⟨rfl, rfl, dd_X8_status_17⟩), ?_⟩
  refine List.forall_mem_cons.mpr ⟨ok_goto hx hb dd_X8_status_18 (by decide), ?_⟩
  refine List.forall_mem_cons.mpr ⟨ok_aload_n hx hb rfl dd_X8_status_21, ?_⟩
  refine List.forall_mem_cons.mpr ⟨ok_iconst hx hb dd_X8_status_22 (by decide), ?_⟩
  refine List.forall_mem_cons.mpr ⟨ok_callV (n := 1) zc_X8 rv_X8_bad C0 (h_X8_bad (d + 1) (by omega)) (by decide) wd_936 wd_933 wd_935 wd_62 wd_107 ⟨rfl, by decide +kernel, by decide +kernel, by decide +kernel⟩ dd_X8_status_23, ?_⟩
  refine List.forall_mem_cons.mpr ⟨ok_iret hx hb hr hlocks hQ dd_X8_status_26, ?_⟩
  exact fun _ h => absurd h List.not_mem_nil
set_option maxRecDepth 100000 in
theorem vc_X8_status_0 {kd : Nat → Nat} {K : zK} {X : zX} (hX : ∀ (n pc : Nat) (ls : zLS) (st : List zV) (M : zM), zrun (tb_X8_status kd K) [] n X pc ls st M → X pc ls st M) {w : Int32} {M : zM} (hk0 : kd 9 = 8) (h : ∀ v1 : Int32, (v1 = zp ((0 : Int64).toInt ≤ w.toInt64.toInt ∧ w.toInt64.toInt ≤ (2 : Int64).toInt)) → ((v1 = 0) → ∀ v2 : Int32, (v2 = (-1 : Int32)) → ∀ M2 : zM, (M2 = zmw M 9 4 (upd (M.1 9 4) 0 (M.1 9 4 0 + 1))) → K (some (zI (v2))) M2) ∧ ((¬ v1 = 0) → (zin (kd 9) 4 0 w) ∧ K (some (zI (M.1 9 4 (w).toNatClampNeg))) M)) : X 0 [some (zR 9 0), some (zI (w))] [] M := hX 13 0 _ [] M (show ∀ v1 : Int32, (v1 = zp ((0 : Int64).toInt ≤ w.toInt64.toInt ∧ w.toInt64.toInt ≤ (2 : Int64).toInt)) → ((v1 = 0) → (kd 9 = 8) ∧ ∀ v2 : Int32, (v2 = (-1 : Int32)) → ∀ M2 : zM, (M2 = zmw M 9 4 (upd (M.1 9 4) 0 (M.1 9 4 0 + 1))) → K (some (zI (v2))) M2) ∧ ((¬ v1 = 0) → (kd 9 = 8) ∧ (zin (kd 9) 4 0 w) ∧ K (some (zI (M.1 9 4 (w).toNatClampNeg))) M) from fun v1 => have h := h v1; fun q => have h := h q; ⟨fun q => have h := h.1 q; ⟨hk0, fun v2 => have h := h v2; fun q => have h := h q; fun M2 => have h := h M2; fun q => have h := h q; h⟩, fun q => have h := h.2 q; ⟨hk0, ⟨h.1, have h := h.2; h⟩⟩⟩)
def sp_X8_part : zSpec := fun kd as M K => match as with
  | [.inr (.inr (.inl (9, 0))), .inl w] => (kd 9 = 8) ∧ ∃ s : St, (RpM M s) ∧ ∀ v : Int64, (v.toInt = (ev_part s w.toInt).1) → ∀ M' : zM, (RpM M' (ev_part s w.toInt).2) → (fr0 M M') → K (some (.inr (.inl v))) M'
  | _ => False
theorem rv_X8_part : zrv sp_X8_part 8 1 := by
  intro kd as M K h
  unfold sp_X8_part at h
  split at h
  · exact ⟨_, _, rfl, h.1⟩
  · exact h.elim
theorem dd_X8_part_0 : decode cX8_part 0 = .ok (.iload_n 1, 1) := by decide +kernel
theorem dd_X8_part_1 : decode cX8_part 1 = .ok (.ifCond .ne 10, 3) := by decide +kernel
theorem dd_X8_part_4 : decode cX8_part 4 = .ok (.aload_n 0, 1) := by decide +kernel
theorem dd_X8_part_5 : decode cX8_part 5 = .ok (.getfield 209, 3) := by decide +kernel
theorem dd_X8_part_8 : decode cX8_part 8 = .ok (.goto 22, 3) := by decide +kernel
theorem dd_X8_part_11 : decode cX8_part 11 = .ok (.iload_n 1, 1) := by decide +kernel
theorem dd_X8_part_12 : decode cX8_part 12 = .ok (.iconst 1, 1) := by decide +kernel
theorem dd_X8_part_13 : decode cX8_part 13 = .ok (.if_icmp .ne 10, 3) := by decide +kernel
theorem dd_X8_part_16 : decode cX8_part 16 = .ok (.aload_n 0, 1) := by decide +kernel
theorem dd_X8_part_17 : decode cX8_part 17 = .ok (.getfield 23, 3) := by decide +kernel
theorem dd_X8_part_20 : decode cX8_part 20 = .ok (.goto 10, 3) := by decide +kernel
theorem dd_X8_part_23 : decode cX8_part 23 = .ok (.aload_n 0, 1) := by decide +kernel
theorem dd_X8_part_24 : decode cX8_part 24 = .ok (.bipush (-2), 2) := by decide +kernel
theorem dd_X8_part_26 : decode cX8_part 26 = .ok (.invokevirtual 81, 3) := by decide +kernel
theorem dd_X8_part_29 : decode cX8_part 29 = .ok (.i2l, 1) := by decide +kernel
theorem dd_X8_part_30 : decode cX8_part 30 = .ok (.lreturn, 1) := by decide +kernel
def tb_X8_part (kd : Nat → Nat) (K : zK) : zTab := [(0, zt_iload 1 1), (1, zt_if (fun x => ¬ x = 0) (fun x => x = 0) 11 4), (4, zt_aload 0 5), (5, zt_getL kd 8 4 8), (8, zt_goto 30), (11, zt_iload 1 12), (12, zt_const (zI 1) 13), (13, zt_icmp (fun x y => ¬ x = y) (fun x y => x = y) 23 16), (16, zt_aload 0 17), (17, zt_getL kd 8 5 20), (20, zt_goto 30), (23, zt_aload 0 24), (24, zt_const (zI (-2)) 26), (26, zt_call kd sp_X8_bad 2 29), (29, zt_un (fun x => zL x.toInt64) 30), (30, zt_lret K)]
set_option maxRecDepth 20000 in
theorem tk_X8_part (d : Nat) (h_X8_bad : zMS 1 yX8_bad cX8_bad 2 (some .int) sp_X8_bad) : zTrue RX8 cX8_part 2 (some .long) (d + 2) (fun kd K => tb_X8_part kd K) := by
  intro p l e R s m args below meth c D cy A ad bl Qm K C0 hr hlocks hQ
  obtain ⟨hx, hb, hml, hown, hts, hK, hD, hA0, hN, hE, ⟨hR1, hR2⟩, hc1, hc2⟩ := id C0
  unfold tb_X8_part
  refine List.forall_mem_cons.mpr ⟨ok_iload_n hx hb rfl dd_X8_part_0, ?_⟩
  refine List.forall_mem_cons.mpr ⟨ok_if_ne hx hb dd_X8_part_1 (by decide), ?_⟩
  refine List.forall_mem_cons.mpr ⟨ok_aload_n hx hb rfl dd_X8_part_4, ?_⟩
  refine List.forall_mem_cons.mpr ⟨ok_getL (j := 4) hx hb hts zi_X8 hown hK zc_X8 (by decide) rfl (fun t fl h => by cases h; rfl) (hts _ wd_844) dd_X8_part_5, ?_⟩
  refine List.forall_mem_cons.mpr ⟨ok_goto hx hb dd_X8_part_8 (by decide), ?_⟩
  refine List.forall_mem_cons.mpr ⟨ok_iload_n hx hb rfl dd_X8_part_11, ?_⟩
  refine List.forall_mem_cons.mpr ⟨ok_iconst hx hb dd_X8_part_12 (by decide), ?_⟩
  refine List.forall_mem_cons.mpr ⟨ok_icmp_ne hx hb dd_X8_part_13 (by decide), ?_⟩
  refine List.forall_mem_cons.mpr ⟨ok_aload_n hx hb rfl dd_X8_part_16, ?_⟩
  refine List.forall_mem_cons.mpr ⟨ok_getL (j := 5) hx hb hts zi_X8 hown hK zc_X8 (by decide) rfl (fun t fl h => by cases h; rfl) (hts _ wd_845) dd_X8_part_17, ?_⟩
  refine List.forall_mem_cons.mpr ⟨ok_goto hx hb dd_X8_part_20 (by decide), ?_⟩
  refine List.forall_mem_cons.mpr ⟨ok_aload_n hx hb rfl dd_X8_part_23, ?_⟩
  refine List.forall_mem_cons.mpr ⟨ok_bipush hx hb dd_X8_part_24 (by decide), ?_⟩
  refine List.forall_mem_cons.mpr ⟨ok_callV (n := 1) zc_X8 rv_X8_bad C0 (h_X8_bad (d + 1) (by omega)) (by decide) wd_936 wd_933 wd_935 wd_62 wd_107 ⟨rfl, by decide +kernel, by decide +kernel, by decide +kernel⟩ dd_X8_part_26, ?_⟩
  refine List.forall_mem_cons.mpr ⟨ok_i2l hx hb dd_X8_part_29, ?_⟩
  refine List.forall_mem_cons.mpr ⟨ok_lret hx hb hr hlocks hQ dd_X8_part_30, ?_⟩
  exact fun _ h => absurd h List.not_mem_nil
set_option maxRecDepth 100000 in
theorem vc_X8_part_0 {kd : Nat → Nat} {K : zK} {X : zX} (hX : ∀ (n pc : Nat) (ls : zLS) (st : List zV) (M : zM), zrun (tb_X8_part kd K) [] n X pc ls st M → X pc ls st M) {w : Int32} {M : zM} (hk0 : kd 9 = 8) (h : ((¬ w = 0) → ((¬ w = (1 : Int32)) → ∀ v1 : Int32, (v1 = (-2 : Int32)) → ∀ M1 : zM, (M1 = zmw M 9 4 (upd (M.1 9 4) 0 (M.1 9 4 0 + 1))) → K (some (zL (v1.toInt64))) M1) ∧ ((w = (1 : Int32)) → K (some (zL (M.2 9 5))) M)) ∧ ((w = 0) → K (some (zL (M.2 9 4))) M)) : X 0 [some (zR 9 0), some (zI (w))] [] M := hX 11 0 _ [] M (show ((¬ w = 0) → ((¬ w = (1 : Int32)) → (kd 9 = 8) ∧ ∀ v1 : Int32, (v1 = (-2 : Int32)) → ∀ M1 : zM, (M1 = zmw M 9 4 (upd (M.1 9 4) 0 (M.1 9 4 0 + 1))) → K (some (zL (v1.toInt64))) M1) ∧ ((w = (1 : Int32)) → (kd 9 = 8) ∧ K (some (zL (M.2 9 5))) M)) ∧ ((w = 0) → (kd 9 = 8) ∧ K (some (zL (M.2 9 4))) M) from ⟨fun q => have h := h.1 q; ⟨fun q => have h := h.1 q; ⟨hk0, fun v1 => have h := h v1; fun q => have h := h q; fun M1 => have h := h M1; fun q => have h := h q; h⟩, fun q => have h := h.2 q; ⟨hk0, h⟩⟩, fun q => have h := h.2 q; ⟨hk0, h⟩⟩)
