def sp_X8_fraction : zSpec := fun kd as M K => match as with
  | [.inr (.inr (.inl (9, 0))), .inr (.inl o), .inr (.inl u)] => (kd 9 = 8) ∧ ∃ s : St, (RpM M s) ∧ ((0 ≤ o.toInt ∧ o.toInt ≤ u.toInt) ∧ 0 < u.toInt ∧ u.toInt ≤ 281474976710656) ∧ ∀ M' : zM, (RpM M' (s.1, s.2.1, s.2.2.1, frc o.toInt u.toInt, s.2.2.2.2)) → (fr0 M M') → K none M'
  | _ => False
theorem rv_X8_fraction : zrv sp_X8_fraction 8 2 := by
  intro kd as M K h
  unfold sp_X8_fraction at h
  split at h
  · exact ⟨_, _, rfl, h.1⟩
  · exact h.elim
theorem dd_X8_fraction_0 : decode cX8_fraction 0 = .ok (.lload_n 1, 1) := by decide +kernel
theorem dd_X8_fraction_1 : decode cX8_fraction 1 = .ok (.lstore 5, 2) := by decide +kernel
theorem dd_X8_fraction_3 : decode cX8_fraction 3 = .ok (.lload_n 3, 1) := by decide +kernel
theorem dd_X8_fraction_4 : decode cX8_fraction 4 = .ok (.lstore 7, 2) := by decide +kernel
theorem dd_X8_fraction_6 : decode cX8_fraction 6 = .ok (.lload 7, 2) := by decide +kernel
theorem dd_X8_fraction_8 : decode cX8_fraction 8 = .ok (.lconst 0, 1) := by decide +kernel
theorem dd_X8_fraction_9 : decode cX8_fraction 9 = .ok (.lcmp, 1) := by decide +kernel
theorem dd_X8_fraction_10 : decode cX8_fraction 10 = .ok (.ifCond .eq 21, 3) := by decide +kernel
theorem dd_X8_fraction_13 : decode cX8_fraction 13 = .ok (.lload 5, 2) := by decide +kernel
theorem dd_X8_fraction_15 : decode cX8_fraction 15 = .ok (.lload 7, 2) := by decide +kernel
theorem dd_X8_fraction_17 : decode cX8_fraction 17 = .ok (.lrem, 1) := by decide +kernel
theorem dd_X8_fraction_18 : decode cX8_fraction 18 = .ok (.lstore 9, 2) := by decide +kernel
theorem dd_X8_fraction_20 : decode cX8_fraction 20 = .ok (.lload 7, 2) := by decide +kernel
theorem dd_X8_fraction_22 : decode cX8_fraction 22 = .ok (.lstore 5, 2) := by decide +kernel
theorem dd_X8_fraction_24 : decode cX8_fraction 24 = .ok (.lload 9, 2) := by decide +kernel
theorem dd_X8_fraction_26 : decode cX8_fraction 26 = .ok (.lstore 7, 2) := by decide +kernel
theorem dd_X8_fraction_28 : decode cX8_fraction 28 = .ok (.goto (-22), 3) := by decide +kernel
theorem dd_X8_fraction_31 : decode cX8_fraction 31 = .ok (.aload_n 0, 1) := by decide +kernel
theorem dd_X8_fraction_32 : decode cX8_fraction 32 = .ok (.lload_n 1, 1) := by decide +kernel
theorem dd_X8_fraction_33 : decode cX8_fraction 33 = .ok (.lload 5, 2) := by decide +kernel
theorem dd_X8_fraction_35 : decode cX8_fraction 35 = .ok (.ldiv, 1) := by decide +kernel
theorem dd_X8_fraction_36 : decode cX8_fraction 36 = .ok (.putfield 209, 3) := by decide +kernel
theorem dd_X8_fraction_39 : decode cX8_fraction 39 = .ok (.aload_n 0, 1) := by decide +kernel
theorem dd_X8_fraction_40 : decode cX8_fraction 40 = .ok (.lload_n 3, 1) := by decide +kernel
theorem dd_X8_fraction_41 : decode cX8_fraction 41 = .ok (.lload 5, 2) := by decide +kernel
theorem dd_X8_fraction_43 : decode cX8_fraction 43 = .ok (.ldiv, 1) := by decide +kernel
theorem dd_X8_fraction_44 : decode cX8_fraction 44 = .ok (.putfield 23, 3) := by decide +kernel
theorem dd_X8_fraction_47 : decode cX8_fraction 47 = .ok (.return_, 1) := by decide +kernel
def tb_X8_fraction (kd : Nat → Nat) (K : zK) : zTab := [(0, zt_lload 1 1), (1, zt_lstore 5 3), (3, zt_lload 3 4), (4, zt_lstore 7 6), (6, zt_lload 7 8), (8, zt_const (zL 0) 9), (9, zt_lcmp 10), (10, zt_if (fun x => x = 0) (fun x => ¬ x = 0) 31 13), (13, zt_lload 5 15), (15, zt_lload 7 17), (17, zt_divL (fun x y => x - x / y * y) 18), (18, zt_lstore 9 20), (20, zt_lload 7 22), (22, zt_lstore 5 24), (24, zt_lload 9 26), (26, zt_lstore 7 28), (28, zt_goto 6), (31, zt_aload 0 32), (32, zt_lload 1 33), (33, zt_lload 5 35), (35, zt_divL (fun x y => x / y) 36), (36, zt_putL kd 8 4 39), (39, zt_aload 0 40), (40, zt_lload 3 41), (41, zt_lload 5 43), (43, zt_divL (fun x y => x / y) 44), (44, zt_putL kd 8 5 47), (47, zt_vret K)]
set_option maxRecDepth 20000 in
theorem tk_X8_fraction (d : Nat)  : zTrue RX8 cX8_fraction 11 none (d + 1) (fun kd K => tb_X8_fraction kd K) := by
  intro p l e R s m args below meth c D cy A ad bl Qm K C0 hr hlocks hQ
  obtain ⟨hx, hb, hml, hown, hts, hK, hD, hA0, hN, hE, ⟨hR1, hR2⟩, hc1, hc2⟩ := id C0
  unfold tb_X8_fraction
  refine List.forall_mem_cons.mpr ⟨ok_lload_n hx hb rfl dd_X8_fraction_0, ?_⟩
  refine List.forall_mem_cons.mpr ⟨ok_lstore hx hb dd_X8_fraction_1, ?_⟩
  refine List.forall_mem_cons.mpr ⟨ok_lload_n hx hb rfl dd_X8_fraction_3, ?_⟩
  refine List.forall_mem_cons.mpr ⟨ok_lstore hx hb dd_X8_fraction_4, ?_⟩
  refine List.forall_mem_cons.mpr ⟨ok_lload hx hb dd_X8_fraction_6, ?_⟩
  refine List.forall_mem_cons.mpr ⟨ok_lconst hx hb dd_X8_fraction_8 (by decide), ?_⟩
  refine List.forall_mem_cons.mpr ⟨ok_lcmp hx hb dd_X8_fraction_9, ?_⟩
  refine List.forall_mem_cons.mpr ⟨ok_if_eq hx hb dd_X8_fraction_10 (by decide), ?_⟩
  refine List.forall_mem_cons.mpr ⟨ok_lload hx hb dd_X8_fraction_13, ?_⟩
  refine List.forall_mem_cons.mpr ⟨ok_lload hx hb dd_X8_fraction_15, ?_⟩
  refine List.forall_mem_cons.mpr ⟨ok_lrem hx hb dd_X8_fraction_17, ?_⟩
  refine List.forall_mem_cons.mpr ⟨ok_lstore hx hb dd_X8_fraction_18, ?_⟩
  refine List.forall_mem_cons.mpr ⟨ok_lload hx hb dd_X8_fraction_20, ?_⟩
  refine List.forall_mem_cons.mpr ⟨ok_lstore hx hb dd_X8_fraction_22, ?_⟩
  refine List.forall_mem_cons.mpr ⟨ok_lload hx hb dd_X8_fraction_24, ?_⟩
  refine List.forall_mem_cons.mpr ⟨ok_lstore hx hb dd_X8_fraction_26, ?_⟩
  refine List.forall_mem_cons.mpr ⟨ok_goto hx hb dd_X8_fraction_28 (by decide), ?_⟩
  refine List.forall_mem_cons.mpr ⟨ok_aload_n hx hb rfl dd_X8_fraction_31, ?_⟩
  refine List.forall_mem_cons.mpr ⟨ok_lload_n hx hb rfl dd_X8_fraction_32, ?_⟩
  refine List.forall_mem_cons.mpr ⟨ok_lload hx hb dd_X8_fraction_33, ?_⟩
  refine List.forall_mem_cons.mpr ⟨ok_ldiv hx hb dd_X8_fraction_35, ?_⟩
  refine List.forall_mem_cons.mpr ⟨ok_putL (j := 4) hx hb hts zi_X8 tyX8 tyX8_ok nmX8 hown hK hD zc_X8 (by decide) rfl rfl (by decide +kernel) (fun t fl h => by cases h; rfl) (hts _ wd_844) dd_X8_fraction_36, ?_⟩
  refine List.forall_mem_cons.mpr ⟨ok_aload_n hx hb rfl dd_X8_fraction_39, ?_⟩
  refine List.forall_mem_cons.mpr ⟨ok_lload_n hx hb rfl dd_X8_fraction_40, ?_⟩
  refine List.forall_mem_cons.mpr ⟨ok_lload hx hb dd_X8_fraction_41, ?_⟩
  refine List.forall_mem_cons.mpr ⟨ok_ldiv hx hb dd_X8_fraction_43, ?_⟩
  refine List.forall_mem_cons.mpr ⟨ok_putL (j := 5) hx hb hts zi_X8 tyX8 tyX8_ok nmX8 hown hK hD zc_X8 (by decide) rfl rfl (by decide +kernel) (fun t fl h => by cases h; rfl) (hts _ wd_845) dd_X8_fraction_44, ?_⟩
  refine List.forall_mem_cons.mpr ⟨ok_vret hx hb hr hlocks hQ dd_X8_fraction_47, ?_⟩
  exact fun _ h => absurd h List.not_mem_nil
set_option maxRecDepth 100000 in
theorem vc_X8_fraction_0 {kd : Nat → Nat} {K : zK} {X : zX} (hX : ∀ (n pc : Nat) (ls : zLS) (st : List zV) (M : zM), zrun (tb_X8_fraction kd K) [(6, [9, 10])] n X pc ls st M → X pc ls st M) {o : Int64} {u : Int64} {M : zM}  (h : X 6 [some (zR 9 0), some (zL (o)), none, some (zL (u)), none, some (zL (o)), none, some (zL (u)), none, none, none] [] M) : X 0 [some (zR 9 0), some (zL (o)), none, some (zL (u)), none, none, none, none, none, none, none] [] M := hX 6 0 _ [] M (show X 6 [some (zR 9 0), some (zL (o)), none, some (zL (u)), none, some (zL (o)), none, some (zL (u)), none, none, none] [] M from h)
set_option maxRecDepth 100000 in
theorem vc_X8_fraction_6 {kd : Nat → Nat} {K : zK} {X : zX} (hX : ∀ (n pc : Nat) (ls : zLS) (st : List zV) (M : zM), zrun (tb_X8_fraction kd K) [(6, [9, 10])] n X pc ls st M → X pc ls st M) {o : Int64} {u : Int64} {p : Int64} {q : Int64} {M : zM} (hk0 : kd 9 = 8) (h : (((lg_cmp q (0 : Int64)) = 0) → (¬ p = 0) ∧ ∀ M1 : zM, (M1 = zml M 9 4 (o / p)) → (¬ p = 0) ∧ ∀ M2 : zM, (M2 = zml M1 9 5 (u / p)) → K none M2) ∧ ((¬ (lg_cmp q (0 : Int64)) = 0) → (¬ q = 0) ∧ X 6 [some (zR 9 0), some (zL (o)), none, some (zL (u)), none, some (zL (q)), none, some (zL (p - p / q * q)), none, none, none] [] M)) : X 6 [some (zR 9 0), some (zL (o)), none, some (zL (u)), none, some (zL (p)), none, some (zL (q)), none, none, none] [] M := hX 16 6 _ [] M (show (((lg_cmp q (0 : Int64)) = 0) → (¬ p = 0) ∧ (kd 9 = 8) ∧ ∀ M1 : zM, (M1 = zml M 9 4 (o / p)) → (¬ p = 0) ∧ (kd 9 = 8) ∧ ∀ M2 : zM, (M2 = zml M1 9 5 (u / p)) → K none M2) ∧ ((¬ (lg_cmp q (0 : Int64)) = 0) → (¬ q = 0) ∧ X 6 [some (zR 9 0), some (zL (o)), none, some (zL (u)), none, some (zL (q)), none, some (zL (p - p / q * q)), none, none, none] [] M) from ⟨fun q => have h := h.1 q; ⟨h.1, have h := h.2; ⟨hk0, fun M1 => have h := h M1; fun q => have h := h q; ⟨h.1, have h := h.2; ⟨hk0, fun M2 => have h := h M2; fun q => have h := h q; h⟩⟩⟩⟩, fun q => have h := h.2 q; ⟨h.1, have h := h.2; h⟩⟩)
def sp_X8_thumbs : zSpec := fun kd as M K => match as with
  | [.inr (.inr (.inl (9, 0))), .inl g, .inl y, .inl z, .inl c] => (kd 9 = 8) ∧ ∃ s : St, (RpM M s) ∧ ∀ v : Int32, (v.toInt = (ev_thumbs s g.toInt y.toInt z.toInt c.toInt).1) → ∀ M' : zM, (RpM M' (ev_thumbs s g.toInt y.toInt z.toInt c.toInt).2) → (fr0 M M') → K (some (.inl v)) M'
  | _ => False
theorem rv_X8_thumbs : zrv sp_X8_thumbs 8 4 := by
  intro kd as M K h
  unfold sp_X8_thumbs at h
  split at h
  · exact ⟨_, _, rfl, h.1⟩
  · exact h.elim
theorem dd_X8_thumbs_0 : decode cX8_thumbs 0 = .ok (.iload_n 1, 1) := by decide +kernel
theorem dd_X8_thumbs_1 : decode cX8_thumbs 1 = .ok (.invokestatic 78, 3) := by decide +kernel
theorem dd_X8_thumbs_4 : decode cX8_thumbs 4 = .ok (.ifCond .eq 35, 3) := by decide +kernel
theorem dd_X8_thumbs_7 : decode cX8_thumbs 7 = .ok (.iload_n 2, 1) := by decide +kernel
theorem dd_X8_thumbs_8 : decode cX8_thumbs 8 = .ok (.invokestatic 142, 3) := by decide +kernel
theorem dd_X8_thumbs_11 : decode cX8_thumbs 11 = .ok (.ifCond .eq 28, 3) := by decide +kernel
theorem dd_X8_thumbs_14 : decode cX8_thumbs 14 = .ok (.iload_n 3, 1) := by decide +kernel
theorem dd_X8_thumbs_15 : decode cX8_thumbs 15 = .ok (.i2l, 1) := by decide +kernel
theorem dd_X8_thumbs_16 : decode cX8_thumbs 16 = .ok (.lconst 0, 1) := by decide +kernel
theorem dd_X8_thumbs_17 : decode cX8_thumbs 17 = .ok (.ldc2_w 194, 3) := by decide +kernel
theorem dd_X8_thumbs_20 : decode cX8_thumbs 20 = .ok (.invokestatic 54, 3) := by decide +kernel
theorem dd_X8_thumbs_23 : decode cX8_thumbs 23 = .ok (.ifCond .eq 16, 3) := by decide +kernel
theorem dd_X8_thumbs_26 : decode cX8_thumbs 26 = .ok (.iload 4, 2) := by decide +kernel
theorem dd_X8_thumbs_28 : decode cX8_thumbs 28 = .ok (.i2l, 1) := by decide +kernel
theorem dd_X8_thumbs_29 : decode cX8_thumbs 29 = .ok (.lconst 0, 1) := by decide +kernel
theorem dd_X8_thumbs_30 : decode cX8_thumbs 30 = .ok (.ldc2_w 58, 3) := by decide +kernel
theorem dd_X8_thumbs_33 : decode cX8_thumbs 33 = .ok (.invokestatic 54, 3) := by decide +kernel
theorem dd_X8_thumbs_36 : decode cX8_thumbs 36 = .ok (.ifCond .ne 10, 3) := by decide +kernel
theorem dd_X8_thumbs_39 : decode cX8_thumbs 39 = .ok (.aload_n 0, 1) := by decide +kernel
theorem dd_X8_thumbs_40 : decode cX8_thumbs 40 = .ok (.bipush (-2), 2) := by decide +kernel
theorem dd_X8_thumbs_42 : decode cX8_thumbs 42 = .ok (.invokevirtual 81, 3) := by decide +kernel
theorem dd_X8_thumbs_45 : decode cX8_thumbs 45 = .ok (.ireturn, 1) := by decide +kernel
theorem dd_X8_thumbs_46 : decode cX8_thumbs 46 = .ok (.aload_n 0, 1) := by decide +kernel
theorem dd_X8_thumbs_47 : decode cX8_thumbs 47 = .ok (.invokevirtual 145, 3) := by decide +kernel
theorem dd_X8_thumbs_50 : decode cX8_thumbs 50 = .ok (.aload_n 0, 1) := by decide +kernel
theorem dd_X8_thumbs_51 : decode cX8_thumbs 51 = .ok (.iload_n 1, 1) := by decide +kernel
theorem dd_X8_thumbs_52 : decode cX8_thumbs 52 = .ok (.iload_n 2, 1) := by decide +kernel
theorem dd_X8_thumbs_53 : decode cX8_thumbs 53 = .ok (.invokevirtual 134, 3) := by decide +kernel
theorem dd_X8_thumbs_56 : decode cX8_thumbs 56 = .ok (.iload 4, 2) := by decide +kernel
theorem dd_X8_thumbs_58 : decode cX8_thumbs 58 = .ok (.aload_n 0, 1) := by decide +kernel
theorem dd_X8_thumbs_59 : decode cX8_thumbs 59 = .ok (.getfield 123, 3) := by decide +kernel
theorem dd_X8_thumbs_62 : decode cX8_thumbs 62 = .ok (.invokestatic 212, 3) := by decide +kernel
theorem dd_X8_thumbs_65 : decode cX8_thumbs 65 = .ok (.lstore 5, 2) := by decide +kernel
theorem dd_X8_thumbs_67 : decode cX8_thumbs 67 = .ok (.iload 4, 2) := by decide +kernel
theorem dd_X8_thumbs_69 : decode cX8_thumbs 69 = .ok (.aload_n 0, 1) := by decide +kernel
theorem dd_X8_thumbs_70 : decode cX8_thumbs 70 = .ok (.getfield 127, 3) := by decide +kernel
theorem dd_X8_thumbs_73 : decode cX8_thumbs 73 = .ok (.invokestatic 212, 3) := by decide +kernel
theorem dd_X8_thumbs_76 : decode cX8_thumbs 76 = .ok (.lstore 7, 2) := by decide +kernel
theorem dd_X8_thumbs_78 : decode cX8_thumbs 78 = .ok (.iload_n 3, 1) := by decide +kernel
theorem dd_X8_thumbs_79 : decode cX8_thumbs 79 = .ok (.iconst 1, 1) := by decide +kernel
theorem dd_X8_thumbs_80 : decode cX8_thumbs 80 = .ok (.iand, 1) := by decide +kernel
theorem dd_X8_thumbs_81 : decode cX8_thumbs 81 = .ok (.iconst 1, 1) := by decide +kernel
theorem dd_X8_thumbs_82 : decode cX8_thumbs 82 = .ok (.if_icmp .ne 17, 3) := by decide +kernel
theorem dd_X8_thumbs_85 : decode cX8_thumbs 85 = .ok (.iconst 4, 1) := by decide +kernel
theorem dd_X8_thumbs_86 : decode cX8_thumbs 86 = .ok (.aload_n 0, 1) := by decide +kernel
theorem dd_X8_thumbs_87 : decode cX8_thumbs 87 = .ok (.getfield 123, 3) := by decide +kernel
theorem dd_X8_thumbs_90 : decode cX8_thumbs 90 = .ok (.invokestatic 212, 3) := by decide +kernel
theorem dd_X8_thumbs_93 : decode cX8_thumbs 93 = .ok (.lload 5, 2) := by decide +kernel
theorem dd_X8_thumbs_95 : decode cX8_thumbs 95 = .ok (.lsub, 1) := by decide +kernel
theorem dd_X8_thumbs_96 : decode cX8_thumbs 96 = .ok (.goto 5, 3) := by decide +kernel
theorem dd_X8_thumbs_99 : decode cX8_thumbs 99 = .ok (.lload 5, 2) := by decide +kernel
theorem dd_X8_thumbs_101 : decode cX8_thumbs 101 = .ok (.lstore 9, 2) := by decide +kernel
theorem dd_X8_thumbs_103 : decode cX8_thumbs 103 = .ok (.iload_n 3, 1) := by decide +kernel
theorem dd_X8_thumbs_104 : decode cX8_thumbs 104 = .ok (.iconst 2, 1) := by decide +kernel
theorem dd_X8_thumbs_105 : decode cX8_thumbs 105 = .ok (.iand, 1) := by decide +kernel
theorem dd_X8_thumbs_106 : decode cX8_thumbs 106 = .ok (.iconst 2, 1) := by decide +kernel
theorem dd_X8_thumbs_107 : decode cX8_thumbs 107 = .ok (.if_icmp .ne 17, 3) := by decide +kernel
theorem dd_X8_thumbs_110 : decode cX8_thumbs 110 = .ok (.iconst 4, 1) := by decide +kernel
theorem dd_X8_thumbs_111 : decode cX8_thumbs 111 = .ok (.aload_n 0, 1) := by decide +kernel
theorem dd_X8_thumbs_112 : decode cX8_thumbs 112 = .ok (.getfield 127, 3) := by decide +kernel
theorem dd_X8_thumbs_115 : decode cX8_thumbs 115 = .ok (.invokestatic 212, 3) := by decide +kernel
theorem dd_X8_thumbs_118 : decode cX8_thumbs 118 = .ok (.lload 7, 2) := by decide +kernel
theorem dd_X8_thumbs_120 : decode cX8_thumbs 120 = .ok (.lsub, 1) := by decide +kernel
theorem dd_X8_thumbs_121 : decode cX8_thumbs 121 = .ok (.goto 5, 3) := by decide +kernel
theorem dd_X8_thumbs_124 : decode cX8_thumbs 124 = .ok (.lload 7, 2) := by decide +kernel
theorem dd_X8_thumbs_126 : decode cX8_thumbs 126 = .ok (.lstore 11, 2) := by decide +kernel
theorem dd_X8_thumbs_128 : decode cX8_thumbs 128 = .ok (.aload_n 0, 1) := by decide +kernel
theorem dd_X8_thumbs_129 : decode cX8_thumbs 129 = .ok (.lload 9, 2) := by decide +kernel
theorem dd_X8_thumbs_131 : decode cX8_thumbs 131 = .ok (.lload 11, 2) := by decide +kernel
theorem dd_X8_thumbs_133 : decode cX8_thumbs 133 = .ok (.lmul, 1) := by decide +kernel
theorem dd_X8_thumbs_134 : decode cX8_thumbs 134 = .ok (.iconst 4, 1) := by decide +kernel
theorem dd_X8_thumbs_135 : decode cX8_thumbs 135 = .ok (.aload_n 0, 1) := by decide +kernel
theorem dd_X8_thumbs_136 : decode cX8_thumbs 136 = .ok (.getfield 123, 3) := by decide +kernel
theorem dd_X8_thumbs_139 : decode cX8_thumbs 139 = .ok (.aload_n 0, 1) := by decide +kernel
theorem dd_X8_thumbs_140 : decode cX8_thumbs 140 = .ok (.getfield 127, 3) := by decide +kernel
theorem dd_X8_thumbs_143 : decode cX8_thumbs 143 = .ok (.iadd, 1) := by decide +kernel
theorem dd_X8_thumbs_144 : decode cX8_thumbs 144 = .ok (.invokestatic 212, 3) := by decide +kernel
theorem dd_X8_thumbs_147 : decode cX8_thumbs 147 = .ok (.invokevirtual 216, 3) := by decide +kernel
theorem dd_X8_thumbs_150 : decode cX8_thumbs 150 = .ok (.iconst 1, 1) := by decide +kernel
theorem dd_X8_thumbs_151 : decode cX8_thumbs 151 = .ok (.ireturn, 1) := by decide +kernel
def tb_X8_thumbs (kd : Nat → Nat) (K : zK) : zTab := [(0, zt_iload 1 1), (1, zt_call kd sp_X8_isThing 1 4), (4, zt_if (fun x => x = 0) (fun x => ¬ x = 0) 39 7), (7, zt_iload 2 8), (8, zt_call kd sp_X8_isYear 1 11), (11, zt_if (fun x => x = 0) (fun x => ¬ x = 0) 39 14), (14, zt_iload 3 15), (15, zt_un (fun x => zL x.toInt64) 16), (16, zt_const (zL 0) 17), (17, zt_const (zL 3) 20), (20, zt_call kd sp_X8_in 3 23), (23, zt_if (fun x => x = 0) (fun x => ¬ x = 0) 39 26), (26, zt_iload 4 28), (28, zt_un (fun x => zL x.toInt64) 29), (29, zt_const (zL 0) 30), (30, zt_const (zL 4) 33), (33, zt_call kd sp_X8_in 3 36), (36, zt_if (fun x => ¬ x = 0) (fun x => x = 0) 46 39), (39, zt_aload 0 40), (40, zt_const (zI (-2)) 42), (42, zt_call kd sp_X8_bad 2 45), (45, zt_iret K), (46, zt_aload 0 47), (47, zt_call kd sp_X8_layHand 1 50), (50, zt_aload 0 51), (51, zt_iload 1 52), (52, zt_iload 2 53), (53, zt_call kd sp_X8_layRule 3 56), (56, zt_iload 4 58), (58, zt_aload 0 59), (59, zt_getI kd 8 7 62), (62, zt_call kd sp_X8_power 2 65), (65, zt_lstore 5 67), (67, zt_iload 4 69), (69, zt_aload 0 70), (70, zt_getI kd 8 8 73), (73, zt_call kd sp_X8_power 2 76), (76, zt_lstore 7 78), (78, zt_iload 3 79), (79, zt_const (zI 1) 80), (80, zt_bin (fun x y => x &&& y) 81), (81, zt_const (zI 1) 82), (82, zt_icmp (fun x y => ¬ x = y) (fun x y => x = y) 99 85), (85, zt_const (zI 4) 86), (86, zt_aload 0 87), (87, zt_getI kd 8 7 90), (90, zt_call kd sp_X8_power 2 93), (93, zt_lload 5 95), (95, zt_binL (fun x y => x - y) 96), (96, zt_goto 101), (99, zt_lload 5 101), (101, zt_lstore 9 103), (103, zt_iload 3 104), (104, zt_const (zI 2) 105), (105, zt_bin (fun x y => x &&& y) 106), (106, zt_const (zI 2) 107), (107, zt_icmp (fun x y => ¬ x = y) (fun x y => x = y) 124 110), (110, zt_const (zI 4) 111), (111, zt_aload 0 112), (112, zt_getI kd 8 8 115), (115, zt_call kd sp_X8_power 2 118), (118, zt_lload 7 120), (120, zt_binL (fun x y => x - y) 121), (121, zt_goto 126), (124, zt_lload 7 126), (126, zt_lstore 11 128), (128, zt_aload 0 129), (129, zt_lload 9 131), (131, zt_lload 11 133), (133, zt_binL (fun x y => x * y) 134), (134, zt_const (zI 4) 135), (135, zt_aload 0 136), (136, zt_getI kd 8 7 139), (139, zt_aload 0 140), (140, zt_getI kd 8 8 143), (143, zt_bin (fun x y => x + y) 144), (144, zt_call kd sp_X8_power 2 147), (147, zt_call kd sp_X8_fraction 3 150), (150, zt_const (zI 1) 151), (151, zt_iret K)]
set_option maxRecDepth 20000 in
theorem tk_X8_thumbs (d : Nat) (h_X8_isThing : zMS 2 yX8_isThing cX8_isThing 1 (some .boolean) sp_X8_isThing) (h_X8_isYear : zMS 2 yX8_isYear cX8_isYear 1 (some .boolean) sp_X8_isYear) (h_X8_in : zMS 1 yX8_in cX8_in 6 (some .boolean) sp_X8_in) (h_X8_bad : zMS 1 yX8_bad cX8_bad 2 (some .int) sp_X8_bad) (h_X8_layHand : zMS 1 yX8_layHand cX8_layHand 2 none sp_X8_layHand) (h_X8_layRule : zMS 6 yX8_layRule cX8_layRule 5 none sp_X8_layRule) (h_X8_power : zMS 1 yX8_power cX8_power 5 (some .long) sp_X8_power) (h_X8_fraction : zMS 1 yX8_fraction cX8_fraction 11 none sp_X8_fraction) : zTrue RX8 cX8_thumbs 13 (some .int) (d + 7) (fun kd K => tb_X8_thumbs kd K) := by
  intro p l e R s m args below meth c D cy A ad bl Qm K C0 hr hlocks hQ
  obtain ⟨hx, hb, hml, hown, hts, hK, hD, hA0, hN, hE, ⟨hR1, hR2⟩, hc1, hc2⟩ := id C0
  unfold tb_X8_thumbs
  refine List.forall_mem_cons.mpr ⟨ok_iload_n hx hb rfl dd_X8_thumbs_0, ?_⟩
  refine List.forall_mem_cons.mpr ⟨ok_callS (n := 1) C0 (h_X8_isThing (d + 6) (by omega)) (by decide) wd_931 wd_929 wd_930 wd_107 ⟨by decide +kernel, by decide +kernel, by decide +kernel⟩ dd_X8_thumbs_1, ?_⟩
  refine List.forall_mem_cons.mpr ⟨ok_if_eq hx hb dd_X8_thumbs_4 (by decide), ?_⟩
  refine List.forall_mem_cons.mpr ⟨ok_iload_n hx hb rfl dd_X8_thumbs_7, ?_⟩
  refine List.forall_mem_cons.mpr ⟨ok_callS (n := 1) C0 (h_X8_isYear (d + 6) (by omega)) (by decide) wd_995 wd_993 wd_994 wd_107 ⟨by decide +kernel, by decide +kernel, by decide +kernel⟩ dd_X8_thumbs_8, ?_⟩
  refine List.forall_mem_cons.mpr ⟨ok_if_eq hx hb dd_X8_thumbs_11 (by decide), ?_⟩
  refine List.forall_mem_cons.mpr ⟨ok_iload_n hx hb rfl dd_X8_thumbs_14, ?_⟩
  refine List.forall_mem_cons.mpr ⟨ok_i2l hx hb dd_X8_thumbs_15, ?_⟩
  refine List.forall_mem_cons.mpr ⟨ok_lconst hx hb dd_X8_thumbs_16 (by decide), ?_⟩
  refine List.forall_mem_cons.mpr ⟨ok_ldc2 hx hb hown (hts _ wd_1086) dd_X8_thumbs_17, ?_⟩
  refine List.forall_mem_cons.mpr ⟨ok_callS (n := 3) C0 (h_X8_in (d + 6) (by omega)) (by decide) wd_928 wd_926 wd_927 wd_107 ⟨by decide +kernel, by decide +kernel, by decide +kernel⟩ dd_X8_thumbs_20, ?_⟩
  refine List.forall_mem_cons.mpr ⟨ok_if_eq hx hb dd_X8_thumbs_23 (by decide), ?_⟩
  refine List.forall_mem_cons.mpr ⟨ok_iload hx hb dd_X8_thumbs_26, ?_⟩
  refine List.forall_mem_cons.mpr ⟨ok_i2l hx hb dd_X8_thumbs_28, ?_⟩
  refine List.forall_mem_cons.mpr ⟨ok_lconst hx hb dd_X8_thumbs_29 (by decide), ?_⟩
  refine List.forall_mem_cons.mpr ⟨ok_ldc2 hx hb hown (hts _ wd_932) dd_X8_thumbs_30, ?_⟩
  refine List.forall_mem_cons.mpr ⟨ok_callS (n := 3) C0 (h_X8_in (d + 6) (by omega)) (by decide) wd_928 wd_926 wd_927 wd_107 ⟨by decide +kernel, by decide +kernel, by decide +kernel⟩ dd_X8_thumbs_33, ?_⟩
  refine List.forall_mem_cons.mpr ⟨ok_if_ne hx hb dd_X8_thumbs_36 (by decide), ?_⟩
  refine List.forall_mem_cons.mpr ⟨ok_aload_n hx hb rfl dd_X8_thumbs_39, ?_⟩
  refine List.forall_mem_cons.mpr ⟨ok_bipush hx hb dd_X8_thumbs_40 (by decide), ?_⟩
  refine List.forall_mem_cons.mpr ⟨ok_callV (n := 1) zc_X8 rv_X8_bad C0 (h_X8_bad (d + 6) (by omega)) (by decide) wd_936 wd_933 wd_935 wd_62 wd_107 ⟨rfl, by decide +kernel, by decide +kernel, by decide +kernel⟩ dd_X8_thumbs_42, ?_⟩
  refine List.forall_mem_cons.mpr ⟨ok_iret hx hb hr hlocks hQ dd_X8_thumbs_45, ?_⟩
  refine List.forall_mem_cons.mpr ⟨ok_aload_n hx hb rfl dd_X8_thumbs_46, ?_⟩
  refine List.forall_mem_cons.mpr ⟨ok_callV (n := 0) zc_X8 rv_X8_layHand C0 (h_X8_layHand (d + 6) (by omega)) (by decide) wd_1000 wd_997 wd_999 wd_67 wd_107 ⟨rfl, by decide +kernel, by decide +kernel, by decide +kernel⟩ dd_X8_thumbs_47, ?_⟩
  refine List.forall_mem_cons.mpr ⟨ok_aload_n hx hb rfl dd_X8_thumbs_50, ?_⟩
  refine List.forall_mem_cons.mpr ⟨ok_iload_n hx hb rfl dd_X8_thumbs_51, ?_⟩
  refine List.forall_mem_cons.mpr ⟨ok_iload_n hx hb rfl dd_X8_thumbs_52, ?_⟩
  refine List.forall_mem_cons.mpr ⟨ok_callV (n := 2) zc_X8 rv_X8_layRule C0 (h_X8_layRule (d + 6) (by omega)) (by decide) wd_1028 wd_1025 wd_1027 wd_73 wd_107 ⟨rfl, by decide +kernel, by decide +kernel, by decide +kernel⟩ dd_X8_thumbs_53, ?_⟩
  refine List.forall_mem_cons.mpr ⟨ok_iload hx hb dd_X8_thumbs_56, ?_⟩
  refine List.forall_mem_cons.mpr ⟨ok_aload_n hx hb rfl dd_X8_thumbs_58, ?_⟩
  refine List.forall_mem_cons.mpr ⟨ok_getI (j := 7) hx hb hts zi_X8 hown hK zc_X8 (by decide) rfl (fun t fl h => by cases h; rfl) (hts _ wd_847) dd_X8_thumbs_59, ?_⟩
  refine List.forall_mem_cons.mpr ⟨ok_callS (n := 2) C0 (h_X8_power (d + 6) (by omega)) (by decide) wd_1133 wd_1131 wd_1132 wd_107 ⟨by decide +kernel, by decide +kernel, by decide +kernel⟩ dd_X8_thumbs_62, ?_⟩
  refine List.forall_mem_cons.mpr ⟨ok_lstore hx hb dd_X8_thumbs_65, ?_⟩
  refine List.forall_mem_cons.mpr ⟨ok_iload hx hb dd_X8_thumbs_67, ?_⟩
  refine List.forall_mem_cons.mpr ⟨ok_aload_n hx hb rfl dd_X8_thumbs_69, ?_⟩
  refine List.forall_mem_cons.mpr ⟨ok_getI (j := 8) hx hb hts zi_X8 hown hK zc_X8 (by decide) rfl (fun t fl h => by cases h; rfl) (hts _ wd_848) dd_X8_thumbs_70, ?_⟩
  refine List.forall_mem_cons.mpr ⟨ok_callS (n := 2) C0 (h_X8_power (d + 6) (by omega)) (by decide) wd_1133 wd_1131 wd_1132 wd_107 ⟨by decide +kernel, by decide +kernel, by decide +kernel⟩ dd_X8_thumbs_73, ?_⟩
  refine List.forall_mem_cons.mpr ⟨ok_lstore hx hb dd_X8_thumbs_76, ?_⟩
  refine List.forall_mem_cons.mpr ⟨ok_iload_n hx hb rfl dd_X8_thumbs_78, ?_⟩
  refine List.forall_mem_cons.mpr ⟨ok_iconst hx hb dd_X8_thumbs_79 (by decide), ?_⟩
  refine List.forall_mem_cons.mpr ⟨ok_iand hx hb dd_X8_thumbs_80, ?_⟩
  refine List.forall_mem_cons.mpr ⟨ok_iconst hx hb dd_X8_thumbs_81 (by decide), ?_⟩
  refine List.forall_mem_cons.mpr ⟨ok_icmp_ne hx hb dd_X8_thumbs_82 (by decide), ?_⟩
  refine List.forall_mem_cons.mpr ⟨ok_iconst hx hb dd_X8_thumbs_85 (by decide), ?_⟩
  refine List.forall_mem_cons.mpr ⟨ok_aload_n hx hb rfl dd_X8_thumbs_86, ?_⟩
  refine List.forall_mem_cons.mpr ⟨ok_getI (j := 7) hx hb hts zi_X8 hown hK zc_X8 (by decide) rfl (fun t fl h => by cases h; rfl) (hts _ wd_847) dd_X8_thumbs_87, ?_⟩
  refine List.forall_mem_cons.mpr ⟨ok_callS (n := 2) C0 (h_X8_power (d + 6) (by omega)) (by decide) wd_1133 wd_1131 wd_1132 wd_107 ⟨by decide +kernel, by decide +kernel, by decide +kernel⟩ dd_X8_thumbs_90, ?_⟩
  refine List.forall_mem_cons.mpr ⟨ok_lload hx hb dd_X8_thumbs_93, ?_⟩
  refine List.forall_mem_cons.mpr ⟨ok_lsub hx hb dd_X8_thumbs_95, ?_⟩
  refine List.forall_mem_cons.mpr ⟨ok_goto hx hb dd_X8_thumbs_96 (by decide), ?_⟩
  refine List.forall_mem_cons.mpr ⟨ok_lload hx hb dd_X8_thumbs_99, ?_⟩
  refine List.forall_mem_cons.mpr ⟨ok_lstore hx hb dd_X8_thumbs_101, ?_⟩
  refine List.forall_mem_cons.mpr ⟨ok_iload_n hx hb rfl dd_X8_thumbs_103, ?_⟩
  refine List.forall_mem_cons.mpr ⟨ok_iconst hx hb dd_X8_thumbs_104 (by decide), ?_⟩
  refine List.forall_mem_cons.mpr ⟨ok_iand hx hb dd_X8_thumbs_105, ?_⟩
  refine List.forall_mem_cons.mpr ⟨ok_iconst hx hb dd_X8_thumbs_106 (by decide), ?_⟩
  refine List.forall_mem_cons.mpr ⟨ok_icmp_ne hx hb dd_X8_thumbs_107 (by decide), ?_⟩
  refine List.forall_mem_cons.mpr ⟨ok_iconst hx hb dd_X8_thumbs_110 (by decide), ?_⟩
  refine List.forall_mem_cons.mpr ⟨ok_aload_n hx hb rfl dd_X8_thumbs_111, ?_⟩
  refine List.forall_mem_cons.mpr ⟨ok_getI (j := 8) hx hb hts zi_X8 hown hK zc_X8 (by decide) rfl (fun t fl h => by cases h; rfl) (hts _ wd_848) dd_X8_thumbs_112, ?_⟩
  refine List.forall_mem_cons.mpr ⟨ok_callS (n := 2) C0 (h_X8_power (d + 6) (by omega)) (by decide) wd_1133 wd_1131 wd_1132 wd_107 ⟨by decide +kernel, by decide +kernel, by decide +kernel⟩ dd_X8_thumbs_115, ?_⟩
  refine List.forall_mem_cons.mpr ⟨ok_lload hx hb dd_X8_thumbs_118, ?_⟩
  refine List.forall_mem_cons.mpr ⟨ok_lsub hx hb dd_X8_thumbs_120, ?_⟩
  refine List.forall_mem_cons.mpr ⟨ok_goto hx hb dd_X8_thumbs_121 (by decide), ?_⟩
  refine List.forall_mem_cons.mpr ⟨ok_lload hx hb dd_X8_thumbs_124, ?_⟩
  refine List.forall_mem_cons.mpr ⟨ok_lstore hx hb dd_X8_thumbs_126, ?_⟩
  refine List.forall_mem_cons.mpr ⟨ok_aload_n hx hb rfl dd_X8_thumbs_128, ?_⟩
  refine List.forall_mem_cons.mpr ⟨ok_lload hx hb dd_X8_thumbs_129, ?_⟩
  refine List.forall_mem_cons.mpr ⟨ok_lload hx hb dd_X8_thumbs_131, ?_⟩
  refine List.forall_mem_cons.mpr ⟨ok_lmul hx hb dd_X8_thumbs_133, ?_⟩
  refine List.forall_mem_cons.mpr ⟨ok_iconst hx hb dd_X8_thumbs_134 (by decide), ?_⟩
  refine List.forall_mem_cons.mpr ⟨ok_aload_n hx hb rfl dd_X8_thumbs_135, ?_⟩
  refine List.forall_mem_cons.mpr ⟨ok_getI (j := 7) hx hb hts zi_X8 hown hK zc_X8 (by decide) rfl (fun t fl h => by cases h; rfl) (hts _ wd_847) dd_X8_thumbs_136, ?_⟩
  refine List.forall_mem_cons.mpr ⟨ok_aload_n hx hb rfl dd_X8_thumbs_139, ?_⟩
  refine List.forall_mem_cons.mpr ⟨ok_getI (j := 8) hx hb hts zi_X8 hown hK zc_X8 (by decide) rfl (fun t fl h => by cases h; rfl) (hts _ wd_848) dd_X8_thumbs_140, ?_⟩
  refine List.forall_mem_cons.mpr ⟨ok_iadd hx hb dd_X8_thumbs_143, ?_⟩
  refine List.forall_mem_cons.mpr ⟨ok_callS (n := 2) C0 (h_X8_power (d + 6) (by omega)) (by decide) wd_1133 wd_1131 wd_1132 wd_107 ⟨by decide +kernel, by decide +kernel, by decide +kernel⟩ dd_X8_thumbs_144, ?_⟩
  refine List.forall_mem_cons.mpr ⟨ok_callV (n := 2) zc_X8 rv_X8_fraction C0 (h_X8_fraction (d + 6) (by omega)) (by decide) wd_1137 wd_1134 wd_1136 wd_86 wd_107 ⟨rfl, by decide +kernel, by decide +kernel, by decide +kernel⟩ dd_X8_thumbs_147, ?_⟩
  refine List.forall_mem_cons.mpr ⟨ok_iconst hx hb dd_X8_thumbs_150 (by decide), ?_⟩
  refine List.forall_mem_cons.mpr ⟨ok_iret hx hb hr hlocks hQ dd_X8_thumbs_151, ?_⟩
  exact fun _ h => absurd h List.not_mem_nil
set_option maxRecDepth 100000 in
theorem vc_X8_thumbs_0 {kd : Nat → Nat} {K : zK} {X : zX} (hX : ∀ (n pc : Nat) (ls : zLS) (st : List zV) (M : zM), zrun (tb_X8_thumbs kd K) [(103, [11, 12]), (128, [])] n X pc ls st M → X pc ls st M) {g : Int32} {y : Int32} {z : Int32} {c : Int32} {M : zM} (hk0 : kd 9 = 8) (h : ∀ v1 : Int32, (v1 = zp (isT g.toInt)) → ((v1 = 0) → ∀ v2 : Int32, (v2 = (-2 : Int32)) → ∀ M2 : zM, (M2 = zmw M 9 4 (upd (M.1 9 4) 0 (M.1 9 4 0 + 1))) → K (some (zI (v2))) M2) ∧ ((¬ v1 = 0) → ∀ v3 : Int32, (v3 = zp (isY y.toInt)) → ((v3 = 0) → ∀ v4 : Int32, (v4 = (-2 : Int32)) → ∀ M4 : zM, (M4 = zmw M 9 4 (upd (M.1 9 4) 0 (M.1 9 4 0 + 1))) → K (some (zI (v4))) M4) ∧ ((¬ v3 = 0) → ∀ v5 : Int32, (v5 = zp ((0 : Int64).toInt ≤ z.toInt64.toInt ∧ z.toInt64.toInt ≤ (3 : Int64).toInt)) → ((v5 = 0) → ∀ v6 : Int32, (v6 = (-2 : Int32)) → ∀ M6 : zM, (M6 = zmw M 9 4 (upd (M.1 9 4) 0 (M.1 9 4 0 + 1))) → K (some (zI (v6))) M6) ∧ ((¬ v5 = 0) → ∀ v7 : Int32, (v7 = zp ((0 : Int64).toInt ≤ c.toInt64.toInt ∧ c.toInt64.toInt ≤ (4 : Int64).toInt)) → ((¬ v7 = 0) → ∀ f8 : Nat → Int32, (∀ j9, j9 < 127 → f8 j9 = M.1 9 1 j9) → ∀ M8 : zM, (M8 = zmw M 9 5 f8) → ∃ a9 : Sk, (RpF (M8.1 9 5) a9) ∧ (0 ≤ y.toInt ∧ y.toInt < 1000000) ∧ ∀ f9 : Nat → Int32, ((f9 7).toInt = sk_N a9 g.toInt 1 y.toInt ∧ (f9 8).toInt = sk_N a9 g.toInt 0 y.toInt ∧ ∀ j9, j9 ≠ 7 → j9 ≠ 8 → f9 j9 = M8.1 9 0 j9) → ∀ M9 : zM, (M9 = zmw M8 9 0 f9) → (0 ≤ c.toInt ∧ c.toInt ≤ 4) ∧ (0 ≤ (M9.1 9 0 7).toInt ∧ (M9.1 9 0 7).toInt ≤ 24) ∧ ∀ v10 : Int64, (v10.toInt = pwr c.toInt (M9.1 9 0 7).toInt) → (0 ≤ c.toInt ∧ c.toInt ≤ 4) ∧ (0 ≤ (M9.1 9 0 8).toInt ∧ (M9.1 9 0 8).toInt ≤ 24) ∧ ∀ v11 : Int64, (v11.toInt = pwr c.toInt (M9.1 9 0 8).toInt) → ((¬ (z &&& (1 : Int32)) = (1 : Int32)) → X 103 [some (zR 9 0), some (zI (g)), some (zI (y)), some (zI (z)), some (zI (c)), some (zL (v10)), none, some (zL (v11)), none, some (zL (v10)), none, none, none] [] M9) ∧ (((z &&& (1 : Int32)) = (1 : Int32)) → (0 ≤ (4 : Int32).toInt ∧ (4 : Int32).toInt ≤ 4) ∧ (0 ≤ (M9.1 9 0 7).toInt ∧ (M9.1 9 0 7).toInt ≤ 24) ∧ ∀ v12 : Int64, (v12.toInt = pwr (4 : Int32).toInt (M9.1 9 0 7).toInt) → X 103 [some (zR 9 0), some (zI (g)), some (zI (y)), some (zI (z)), some (zI (c)), some (zL (v10)), none, some (zL (v11)), none, some (zL (v12 - v10)), none, none, none] [] M9)) ∧ ((v7 = 0) → ∀ v13 : Int32, (v13 = (-2 : Int32)) → ∀ M13 : zM, (M13 = zmw M 9 4 (upd (M.1 9 4) 0 (M.1 9 4 0 + 1))) → K (some (zI (v13))) M13))))) : X 0 [some (zR 9 0), some (zI (g)), some (zI (y)), some (zI (z)), some (zI (c)), none, none, none, none, none, none, none, none] [] M := hX 49 0 _ [] M (show ∀ v1 : Int32, (v1 = zp (isT g.toInt)) → ((v1 = 0) → (kd 9 = 8) ∧ ∀ v2 : Int32, (v2 = (-2 : Int32)) → ∀ M2 : zM, (M2 = zmw M 9 4 (upd (M.1 9 4) 0 (M.1 9 4 0 + 1))) → K (some (zI (v2))) M2) ∧ ((¬ v1 = 0) → ∀ v3 : Int32, (v3 = zp (isY y.toInt)) → ((v3 = 0) → (kd 9 = 8) ∧ ∀ v4 : Int32, (v4 = (-2 : Int32)) → ∀ M4 : zM, (M4 = zmw M 9 4 (upd (M.1 9 4) 0 (M.1 9 4 0 + 1))) → K (some (zI (v4))) M4) ∧ ((¬ v3 = 0) → ∀ v5 : Int32, (v5 = zp ((0 : Int64).toInt ≤ z.toInt64.toInt ∧ z.toInt64.toInt ≤ (3 : Int64).toInt)) → ((v5 = 0) → (kd 9 = 8) ∧ ∀ v6 : Int32, (v6 = (-2 : Int32)) → ∀ M6 : zM, (M6 = zmw M 9 4 (upd (M.1 9 4) 0 (M.1 9 4 0 + 1))) → K (some (zI (v6))) M6) ∧ ((¬ v5 = 0) → ∀ v7 : Int32, (v7 = zp ((0 : Int64).toInt ≤ c.toInt64.toInt ∧ c.toInt64.toInt ≤ (4 : Int64).toInt)) → ((¬ v7 = 0) → (kd 9 = 8) ∧ ∀ f8 : Nat → Int32, (∀ j9, j9 < 127 → f8 j9 = M.1 9 1 j9) → ∀ M8 : zM, (M8 = zmw M 9 5 f8) → (kd 9 = 8) ∧ ∃ a9 : Sk, (RpF (M8.1 9 5) a9) ∧ (0 ≤ y.toInt ∧ y.toInt < 1000000) ∧ ∀ f9 : Nat → Int32, ((f9 7).toInt = sk_N a9 g.toInt 1 y.toInt ∧ (f9 8).toInt = sk_N a9 g.toInt 0 y.toInt ∧ ∀ j9, j9 ≠ 7 → j9 ≠ 8 → f9 j9 = M8.1 9 0 j9) → ∀ M9 : zM, (M9 = zmw M8 9 0 f9) → (kd 9 = 8) ∧ (0 ≤ c.toInt ∧ c.toInt ≤ 4) ∧ (0 ≤ (M9.1 9 0 7).toInt ∧ (M9.1 9 0 7).toInt ≤ 24) ∧ ∀ v10 : Int64, (v10.toInt = pwr c.toInt (M9.1 9 0 7).toInt) → (kd 9 = 8) ∧ (0 ≤ c.toInt ∧ c.toInt ≤ 4) ∧ (0 ≤ (M9.1 9 0 8).toInt ∧ (M9.1 9 0 8).toInt ≤ 24) ∧ ∀ v11 : Int64, (v11.toInt = pwr c.toInt (M9.1 9 0 8).toInt) → ((¬ (z &&& (1 : Int32)) = (1 : Int32)) → X 103 [some (zR 9 0), some (zI (g)), some (zI (y)), some (zI (z)), some (zI (c)), some (zL (v10)), none, some (zL (v11)), none, some (zL (v10)), none, none, none] [] M9) ∧ (((z &&& (1 : Int32)) = (1 : Int32)) → (kd 9 = 8) ∧ (0 ≤ (4 : Int32).toInt ∧ (4 : Int32).toInt ≤ 4) ∧ (0 ≤ (M9.1 9 0 7).toInt ∧ (M9.1 9 0 7).toInt ≤ 24) ∧ ∀ v12 : Int64, (v12.toInt = pwr (4 : Int32).toInt (M9.1 9 0 7).toInt) → X 103 [some (zR 9 0), some (zI (g)), some (zI (y)), some (zI (z)), some (zI (c)), some (zL (v10)), none, some (zL (v11)), none, some (zL (v12 - v10)), none, none, none] [] M9)) ∧ ((v7 = 0) → (kd 9 = 8) ∧ ∀ v13 : Int32, (v13 = (-2 : Int32)) → ∀ M13 : zM, (M13 = zmw M 9 4 (upd (M.1 9 4) 0 (M.1 9 4 0 + 1))) → K (some (zI (v13))) M13)))) from fun v1 => have h := h v1; fun q => have h := h q; ⟨fun q => have h := h.1 q; ⟨hk0, fun v2 => have h := h v2; fun q => have h := h q; fun M2 => have h := h M2; fun q => have h := h q; h⟩, fun q => have h := h.2 q; fun v3 => have h := h v3; fun q => have h := h q; ⟨fun q => have h := h.1 q; ⟨hk0, fun v4 => have h := h v4; fun q => have h := h q; fun M4 => have h := h M4; fun q => have h := h q; h⟩, fun q => have h := h.2 q; fun v5 => have h := h v5; fun q => have h := h q; ⟨fun q => have h := h.1 q; ⟨hk0, fun v6 => have h := h v6; fun q => have h := h q; fun M6 => have h := h M6; fun q => have h := h q; h⟩, fun q => have h := h.2 q; fun v7 => have h := h v7; fun q => have h := h q; ⟨fun q => have h := h.1 q; ⟨hk0, fun f8 => have h := h f8; fun q => have h := h q; fun M8 => have h := h M8; fun q => have h := h q; ⟨hk0, h.elim (fun a9 h => ⟨a9, ⟨h.1, have h := h.2; ⟨h.1, have h := h.2; fun f9 => have h := h f9; fun q => have h := h q; fun M9 => have h := h M9; fun q => have h := h q; ⟨hk0, ⟨h.1, have h := h.2; ⟨h.1, have h := h.2; fun v10 => have h := h v10; fun q => have h := h q; ⟨hk0, ⟨h.1, have h := h.2; ⟨h.1, have h := h.2; fun v11 => have h := h v11; fun q => have h := h q; ⟨fun q => have h := h.1 q; h, fun q => have h := h.2 q; ⟨hk0, ⟨h.1, have h := h.2; ⟨h.1, have h := h.2; fun v12 => have h := h v12; fun q => have h := h q; h⟩⟩⟩⟩⟩⟩⟩⟩⟩⟩⟩⟩⟩)⟩⟩, fun q => have h := h.2 q; ⟨hk0, fun v13 => have h := h v13; fun q => have h := h q; fun M13 => have h := h M13; fun q => have h := h q; h⟩⟩⟩⟩⟩)
set_option maxRecDepth 100000 in
theorem vc_X8_thumbs_103 {kd : Nat → Nat} {K : zK} {X : zX} (hX : ∀ (n pc : Nat) (ls : zLS) (st : List zV) (M : zM), zrun (tb_X8_thumbs kd K) [(103, [11, 12]), (128, [])] n X pc ls st M → X pc ls st M) {g : Int32} {y : Int32} {z : Int32} {c : Int32} {p : Int64} {q : Int64} {r : Int64} {M : zM} (hk0 : kd 9 = 8) (h : ((¬ (z &&& (2 : Int32)) = (2 : Int32)) → X 128 [some (zR 9 0), some (zI (g)), some (zI (y)), some (zI (z)), some (zI (c)), some (zL (p)), none, some (zL (q)), none, some (zL (r)), none, some (zL (q)), none] [] M) ∧ (((z &&& (2 : Int32)) = (2 : Int32)) → (0 ≤ (4 : Int32).toInt ∧ (4 : Int32).toInt ≤ 4) ∧ (0 ≤ (M.1 9 0 8).toInt ∧ (M.1 9 0 8).toInt ≤ 24) ∧ ∀ v1 : Int64, (v1.toInt = pwr (4 : Int32).toInt (M.1 9 0 8).toInt) → X 128 [some (zR 9 0), some (zI (g)), some (zI (y)), some (zI (z)), some (zI (c)), some (zL (p)), none, some (zL (q)), none, some (zL (r)), none, some (zL (v1 - q)), none] [] M)) : X 103 [some (zR 9 0), some (zI (g)), some (zI (y)), some (zI (z)), some (zI (c)), some (zL (p)), none, some (zL (q)), none, some (zL (r)), none, none, none] [] M := hX 15 103 _ [] M (show ((¬ (z &&& (2 : Int32)) = (2 : Int32)) → X 128 [some (zR 9 0), some (zI (g)), some (zI (y)), some (zI (z)), some (zI (c)), some (zL (p)), none, some (zL (q)), none, some (zL (r)), none, some (zL (q)), none] [] M) ∧ (((z &&& (2 : Int32)) = (2 : Int32)) → (kd 9 = 8) ∧ (0 ≤ (4 : Int32).toInt ∧ (4 : Int32).toInt ≤ 4) ∧ (0 ≤ (M.1 9 0 8).toInt ∧ (M.1 9 0 8).toInt ≤ 24) ∧ ∀ v1 : Int64, (v1.toInt = pwr (4 : Int32).toInt (M.1 9 0 8).toInt) → X 128 [some (zR 9 0), some (zI (g)), some (zI (y)), some (zI (z)), some (zI (c)), some (zL (p)), none, some (zL (q)), none, some (zL (r)), none, some (zL (v1 - q)), none] [] M) from ⟨fun q => have h := h.1 q; h, fun q => have h := h.2 q; ⟨hk0, ⟨h.1, have h := h.2; ⟨h.1, have h := h.2; fun v1 => have h := h v1; fun q => have h := h q; h⟩⟩⟩⟩)
set_option maxRecDepth 100000 in
theorem vc_X8_thumbs_128 {kd : Nat → Nat} {K : zK} {X : zX} (hX : ∀ (n pc : Nat) (ls : zLS) (st : List zV) (M : zM), zrun (tb_X8_thumbs kd K) [(103, [11, 12]), (128, [])] n X pc ls st M → X pc ls st M) {g : Int32} {y : Int32} {z : Int32} {c : Int32} {p : Int64} {q : Int64} {r : Int64} {t : Int64} {M : zM} (hk0 : kd 9 = 8) (h : (0 ≤ (4 : Int32).toInt ∧ (4 : Int32).toInt ≤ 4) ∧ (0 ≤ ((M.1 9 0 7) + (M.1 9 0 8)).toInt ∧ ((M.1 9 0 7) + (M.1 9 0 8)).toInt ≤ 24) ∧ ∀ v1 : Int64, (v1.toInt = pwr (4 : Int32).toInt ((M.1 9 0 7) + (M.1 9 0 8)).toInt) → ∃ s2 : St, (RpM M s2) ∧ ((0 ≤ (r * t).toInt ∧ (r * t).toInt ≤ v1.toInt) ∧ 0 < v1.toInt ∧ v1.toInt ≤ 281474976710656) ∧ ∀ M2 : zM, (RpM M2 (s2.1, s2.2.1, s2.2.2.1, frc (r * t).toInt v1.toInt, s2.2.2.2.2)) → (fr0 M M2) → K (some (zI ((1 : Int32)))) M2) : X 128 [some (zR 9 0), some (zI (g)), some (zI (y)), some (zI (z)), some (zI (c)), some (zL (p)), none, some (zL (q)), none, some (zL (r)), none, some (zL (t)), none] [] M := hX 15 128 _ [] M (show (kd 9 = 8) ∧ (kd 9 = 8) ∧ (0 ≤ (4 : Int32).toInt ∧ (4 : Int32).toInt ≤ 4) ∧ (0 ≤ ((M.1 9 0 7) + (M.1 9 0 8)).toInt ∧ ((M.1 9 0 7) + (M.1 9 0 8)).toInt ≤ 24) ∧ ∀ v1 : Int64, (v1.toInt = pwr (4 : Int32).toInt ((M.1 9 0 7) + (M.1 9 0 8)).toInt) → (kd 9 = 8) ∧ ∃ s2 : St, (RpM M s2) ∧ ((0 ≤ (r * t).toInt ∧ (r * t).toInt ≤ v1.toInt) ∧ 0 < v1.toInt ∧ v1.toInt ≤ 281474976710656) ∧ ∀ M2 : zM, (RpM M2 (s2.1, s2.2.1, s2.2.2.1, frc (r * t).toInt v1.toInt, s2.2.2.2.2)) → (fr0 M M2) → K (some (zI ((1 : Int32)))) M2 from ⟨hk0, ⟨hk0, ⟨h.1, have h := h.2; ⟨h.1, have h := h.2; fun v1 => have h := h v1; fun q => have h := h q; ⟨hk0, h.elim (fun s2 h => ⟨s2, ⟨h.1, have h := h.2; ⟨h.1, have h := h.2; fun M2 => have h := h M2; fun q => have h := h q; fun q => have h := h q; h⟩⟩⟩)⟩⟩⟩⟩⟩)
def sp_X8_centuries : zSpec := fun kd as M K => match as with
  | [.inr (.inr (.inl (9, 0))), .inl x, .inl n] => (kd 9 = 8) ∧ ∃ s : St, (RpM M s) ∧ ∀ v : Int32, (v.toInt = (ev_centuries s x.toInt n.toInt).1) → ∀ M' : zM, (RpM M' (ev_centuries s x.toInt n.toInt).2) → (fr0 M M') → K (some (.inl v)) M'
  | _ => False
theorem rv_X8_centuries : zrv sp_X8_centuries 8 2 := by
  intro kd as M K h
  unfold sp_X8_centuries at h
  split at h
  · exact ⟨_, _, rfl, h.1⟩
  · exact h.elim
theorem dd_X8_centuries_0 : decode cX8_centuries 0 = .ok (.iload_n 1, 1) := by decide +kernel
theorem dd_X8_centuries_1 : decode cX8_centuries 1 = .ok (.i2l, 1) := by decide +kernel
theorem dd_X8_centuries_2 : decode cX8_centuries 2 = .ok (.lconst 0, 1) := by decide +kernel
theorem dd_X8_centuries_3 : decode cX8_centuries 3 = .ok (.ldc2_w 220, 3) := by decide +kernel
theorem dd_X8_centuries_6 : decode cX8_centuries 6 = .ok (.invokestatic 54, 3) := by decide +kernel
theorem dd_X8_centuries_9 : decode cX8_centuries 9 = .ok (.ifCond .eq 15, 3) := by decide +kernel
theorem dd_X8_centuries_12 : decode cX8_centuries 12 = .ok (.iload_n 2, 1) := by decide +kernel
theorem dd_X8_centuries_13 : decode cX8_centuries 13 = .ok (.i2l, 1) := by decide +kernel
theorem dd_X8_centuries_14 : decode cX8_centuries 14 = .ok (.lconst 0, 1) := by decide +kernel
theorem dd_X8_centuries_15 : decode cX8_centuries 15 = .ok (.ldc2_w 222, 3) := by decide +kernel
theorem dd_X8_centuries_18 : decode cX8_centuries 18 = .ok (.invokestatic 54, 3) := by decide +kernel
theorem dd_X8_centuries_21 : decode cX8_centuries 21 = .ok (.ifCond .ne 10, 3) := by decide +kernel
theorem dd_X8_centuries_24 : decode cX8_centuries 24 = .ok (.aload_n 0, 1) := by decide +kernel
theorem dd_X8_centuries_25 : decode cX8_centuries 25 = .ok (.bipush (-2), 2) := by decide +kernel
theorem dd_X8_centuries_27 : decode cX8_centuries 27 = .ok (.invokevirtual 81, 3) := by decide +kernel
theorem dd_X8_centuries_30 : decode cX8_centuries 30 = .ok (.ireturn, 1) := by decide +kernel
theorem dd_X8_centuries_31 : decode cX8_centuries 31 = .ok (.iload_n 1, 1) := by decide +kernel
theorem dd_X8_centuries_32 : decode cX8_centuries 32 = .ok (.i2l, 1) := by decide +kernel
theorem dd_X8_centuries_33 : decode cX8_centuries 33 = .ok (.lstore_n 3, 1) := by decide +kernel
theorem dd_X8_centuries_34 : decode cX8_centuries 34 = .ok (.aload_n 0, 1) := by decide +kernel
theorem dd_X8_centuries_35 : decode cX8_centuries 35 = .ok (.invokevirtual 145, 3) := by decide +kernel
theorem dd_X8_centuries_38 : decode cX8_centuries 38 = .ok (.iconst 0, 1) := by decide +kernel
theorem dd_X8_centuries_39 : decode cX8_centuries 39 = .ok (.istore 5, 2) := by decide +kernel
theorem dd_X8_centuries_41 : decode cX8_centuries 41 = .ok (.iload 5, 2) := by decide +kernel
theorem dd_X8_centuries_43 : decode cX8_centuries 43 = .ok (.iload_n 2, 1) := by decide +kernel
theorem dd_X8_centuries_44 : decode cX8_centuries 44 = .ok (.if_icmp .ge 130, 3) := by decide +kernel
theorem dd_X8_centuries_47 : decode cX8_centuries 47 = .ok (.lload_n 3, 1) := by decide +kernel
theorem dd_X8_centuries_48 : decode cX8_centuries 48 = .ok (.ldc2_w 224, 3) := by decide +kernel
theorem dd_X8_centuries_51 : decode cX8_centuries 51 = .ok (.lmul, 1) := by decide +kernel
theorem dd_X8_centuries_52 : decode cX8_centuries 52 = .ok (.ldc2_w 226, 3) := by decide +kernel
theorem dd_X8_centuries_55 : decode cX8_centuries 55 = .ok (.ladd, 1) := by decide +kernel
theorem dd_X8_centuries_56 : decode cX8_centuries 56 = .ok (.ldc2_w 228, 3) := by decide +kernel
theorem dd_X8_centuries_59 : decode cX8_centuries 59 = .ok (.lrem, 1) := by decide +kernel
theorem dd_X8_centuries_60 : decode cX8_centuries 60 = .ok (.lstore_n 3, 1) := by decide +kernel
theorem dd_X8_centuries_61 : decode cX8_centuries 61 = .ok (.lload_n 3, 1) := by decide +kernel
theorem dd_X8_centuries_62 : decode cX8_centuries 62 = .ok (.ldc2_w 230, 3) := by decide +kernel
theorem dd_X8_centuries_65 : decode cX8_centuries 65 = .ok (.ldiv, 1) := by decide +kernel
theorem dd_X8_centuries_66 : decode cX8_centuries 66 = .ok (.lstore 6, 2) := by decide +kernel
theorem dd_X8_centuries_68 : decode cX8_centuries 68 = .ok (.lload 6, 2) := by decide +kernel
theorem dd_X8_centuries_70 : decode cX8_centuries 70 = .ok (.ldc2_w 232, 3) := by decide +kernel
theorem dd_X8_centuries_73 : decode cX8_centuries 73 = .ok (.lrem, 1) := by decide +kernel
theorem dd_X8_centuries_74 : decode cX8_centuries 74 = .ok (.l2i, 1) := by decide +kernel
theorem dd_X8_centuries_75 : decode cX8_centuries 75 = .ok (.istore 8, 2) := by decide +kernel
theorem dd_X8_centuries_77 : decode cX8_centuries 77 = .ok (.aload_n 0, 1) := by decide +kernel
theorem dd_X8_centuries_78 : decode cX8_centuries 78 = .ok (.getfield 27, 3) := by decide +kernel
theorem dd_X8_centuries_81 : decode cX8_centuries 81 = .ok (.iload 8, 2) := by decide +kernel
theorem dd_X8_centuries_83 : decode cX8_centuries 83 = .ok (.invokestatic 66, 3) := by decide +kernel
theorem dd_X8_centuries_86 : decode cX8_centuries 86 = .ok (.ifCond .eq 17, 3) := by decide +kernel
theorem dd_X8_centuries_89 : decode cX8_centuries 89 = .ok (.aload_n 0, 1) := by decide +kernel
theorem dd_X8_centuries_90 : decode cX8_centuries 90 = .ok (.getfield 27, 3) := by decide +kernel
theorem dd_X8_centuries_93 : decode cX8_centuries 93 = .ok (.iload 8, 2) := by decide +kernel
theorem dd_X8_centuries_95 : decode cX8_centuries 95 = .ok (.invokestatic 99, 3) := by decide +kernel
theorem dd_X8_centuries_98 : decode cX8_centuries 98 = .ok (.istore 9, 2) := by decide +kernel
theorem dd_X8_centuries_100 : decode cX8_centuries 100 = .ok (.goto 51, 3) := by decide +kernel
theorem dd_X8_centuries_103 : decode cX8_centuries 103 = .ok (.aload_n 0, 1) := by decide +kernel
theorem dd_X8_centuries_104 : decode cX8_centuries 104 = .ok (.getfield 27, 3) := by decide +kernel
theorem dd_X8_centuries_107 : decode cX8_centuries 107 = .ok (.iload 8, 2) := by decide +kernel
theorem dd_X8_centuries_109 : decode cX8_centuries 109 = .ok (.invokestatic 154, 3) := by decide +kernel
theorem dd_X8_centuries_112 : decode cX8_centuries 112 = .ok (.ifCond .eq 39, 3) := by decide +kernel
theorem dd_X8_centuries_115 : decode cX8_centuries 115 = .ok (.aload_n 0, 1) := by decide +kernel
theorem dd_X8_centuries_116 : decode cX8_centuries 116 = .ok (.getfield 27, 3) := by decide +kernel
theorem dd_X8_centuries_119 : decode cX8_centuries 119 = .ok (.iload 8, 2) := by decide +kernel
theorem dd_X8_centuries_121 : decode cX8_centuries 121 = .ok (.lload 6, 2) := by decide +kernel
theorem dd_X8_centuries_123 : decode cX8_centuries 123 = .ok (.ldc2_w 234, 3) := by decide +kernel
theorem dd_X8_centuries_126 : decode cX8_centuries 126 = .ok (.lrem, 1) := by decide +kernel
theorem dd_X8_centuries_127 : decode cX8_centuries 127 = .ok (.ldc2_w 232, 3) := by decide +kernel
theorem dd_X8_centuries_130 : decode cX8_centuries 130 = .ok (.lrem, 1) := by decide +kernel
theorem dd_X8_centuries_131 : decode cX8_centuries 131 = .ok (.l2i, 1) := by decide +kernel
theorem dd_X8_centuries_132 : decode cX8_centuries 132 = .ok (.lload 6, 2) := by decide +kernel
theorem dd_X8_centuries_134 : decode cX8_centuries 134 = .ok (.ldc2_w 52, 3) := by decide +kernel
theorem dd_X8_centuries_137 : decode cX8_centuries 137 = .ok (.lrem, 1) := by decide +kernel
theorem dd_X8_centuries_138 : decode cX8_centuries 138 = .ok (.l2i, 1) := by decide +kernel
theorem dd_X8_centuries_139 : decode cX8_centuries 139 = .ok (.lload 6, 2) := by decide +kernel
theorem dd_X8_centuries_141 : decode cX8_centuries 141 = .ok (.ldc2_w 180, 3) := by decide +kernel
theorem dd_X8_centuries_144 : decode cX8_centuries 144 = .ok (.lrem, 1) := by decide +kernel
theorem dd_X8_centuries_145 : decode cX8_centuries 145 = .ok (.l2i, 1) := by decide +kernel
theorem dd_X8_centuries_146 : decode cX8_centuries 146 = .ok (.invokestatic 95, 3) := by decide +kernel
theorem dd_X8_centuries_149 : decode cX8_centuries 149 = .ok (.istore 9, 2) := by decide +kernel
theorem dd_X8_centuries_151 : decode cX8_centuries 151 = .ok (.aload_n 0, 1) := by decide +kernel
theorem dd_X8_centuries_152 : decode cX8_centuries 152 = .ok (.getfield 27, 3) := by decide +kernel
theorem dd_X8_centuries_155 : decode cX8_centuries 155 = .ok (.lload_n 3, 1) := by decide +kernel
theorem dd_X8_centuries_156 : decode cX8_centuries 156 = .ok (.ldc2_w 236, 3) := by decide +kernel
theorem dd_X8_centuries_159 : decode cX8_centuries 159 = .ok (.ldiv, 1) := by decide +kernel
theorem dd_X8_centuries_160 : decode cX8_centuries 160 = .ok (.ldc2_w 238, 3) := by decide +kernel
theorem dd_X8_centuries_163 : decode cX8_centuries 163 = .ok (.lrem, 1) := by decide +kernel
theorem dd_X8_centuries_164 : decode cX8_centuries 164 = .ok (.l2i, 1) := by decide +kernel
theorem dd_X8_centuries_165 : decode cX8_centuries 165 = .ok (.invokestatic 105, 3) := by decide +kernel
theorem dd_X8_centuries_168 : decode cX8_centuries 168 = .ok (.iinc 5 1, 3) := by decide +kernel
theorem dd_X8_centuries_171 : decode cX8_centuries 171 = .ok (.goto (-130), 3) := by decide +kernel
theorem dd_X8_centuries_174 : decode cX8_centuries 174 = .ok (.aload_n 0, 1) := by decide +kernel
theorem dd_X8_centuries_175 : decode cX8_centuries 175 = .ok (.aload_n 0, 1) := by decide +kernel
theorem dd_X8_centuries_176 : decode cX8_centuries 176 = .ok (.getfield 27, 3) := by decide +kernel
theorem dd_X8_centuries_179 : decode cX8_centuries 179 = .ok (.bipush 126, 2) := by decide +kernel
theorem dd_X8_centuries_181 : decode cX8_centuries 181 = .ok (.iaload, 1) := by decide +kernel
theorem dd_X8_centuries_182 : decode cX8_centuries 182 = .ok (.invokevirtual 240, 3) := by decide +kernel
theorem dd_X8_centuries_185 : decode cX8_centuries 185 = .ok (.ireturn, 1) := by decide +kernel
def tb_X8_centuries (kd : Nat → Nat) (K : zK) : zTab := [(0, zt_iload 1 1), (1, zt_un (fun x => zL x.toInt64) 2), (2, zt_const (zL 0) 3), (3, zt_const (zL 999999) 6), (6, zt_call kd sp_X8_in 3 9), (9, zt_if (fun x => x = 0) (fun x => ¬ x = 0) 24 12), (12, zt_iload 2 13), (13, zt_un (fun x => zL x.toInt64) 14), (14, zt_const (zL 0) 15), (15, zt_const (zL 30) 18), (18, zt_call kd sp_X8_in 3 21), (21, zt_if (fun x => ¬ x = 0) (fun x => x = 0) 31 24), (24, zt_aload 0 25), (25, zt_const (zI (-2)) 27), (27, zt_call kd sp_X8_bad 2 30), (30, zt_iret K), (31, zt_iload 1 32), (32, zt_un (fun x => zL x.toInt64) 33), (33, zt_lstore 3 34), (34, zt_aload 0 35), (35, zt_call kd sp_X8_layHand 1 38), (38, zt_const (zI 0) 39), (39, zt_istore 5 41), (41, zt_iload 5 43), (43, zt_iload 2 44), (44, zt_icmp (fun x y => y ≤ x) (fun x y => ¬ y ≤ x) 174 47), (47, zt_lload 3 48), (48, zt_const (zL 1103515245) 51), (51, zt_binL (fun x y => x * y) 52), (52, zt_const (zL 12345) 55), (55, zt_binL (fun x y => x + y) 56), (56, zt_const (zL 2147483648) 59), (59, zt_divL (fun x y => x - x / y * y) 60), (60, zt_lstore 3 61), (61, zt_lload 3 62), (62, zt_const (zL 65536) 65), (65, zt_divL (fun x y => x / y) 66), (66, zt_lstore 6 68), (68, zt_lload 6 70), (70, zt_const (zL 6) 73), (73, zt_divL (fun x y => x - x / y * y) 74), (74, zt_unL (fun x => zI x.toInt32) 75), (75, zt_istore 8 77), (77, zt_aload 0 78), (78, zt_getR kd 8 0 5 81), (81, zt_iload 8 83), (83, zt_call kd sp_X8_mayRub 2 86), (86, zt_if (fun x => x = 0) (fun x => ¬ x = 0) 103 89), (89, zt_aload 0 90), (90, zt_getR kd 8 0 5 93), (93, zt_iload 8 95), (95, zt_call kd sp_X8_goRub 2 98), (98, zt_istore 9 100), (100, zt_goto 151), (103, zt_aload 0 104), (104, zt_getR kd 8 0 5 107), (107, zt_iload 8 109), (109, zt_call kd sp_X8_mayWrite 2 112), (112, zt_if (fun x => x = 0) (fun x => ¬ x = 0) 151 115), (115, zt_aload 0 116), (116, zt_getR kd 8 0 5 119), (119, zt_iload 8 121), (121, zt_lload 6 123), (123, zt_const (zL 7) 126), (126, zt_divL (fun x y => x - x / y * y) 127), (127, zt_const (zL 6) 130), (130, zt_divL (fun x y => x - x / y * y) 131), (131, zt_unL (fun x => zI x.toInt32) 132), (132, zt_lload 6 134), (134, zt_const (zL 5) 137), (137, zt_divL (fun x y => x - x / y * y) 138), (138, zt_unL (fun x => zI x.toInt32) 139), (139, zt_lload 6 141), (141, zt_const (zL 2) 144), (144, zt_divL (fun x y => x - x / y * y) 145), (145, zt_unL (fun x => zI x.toInt32) 146), (146, zt_call kd sp_X8_goWrite 5 149), (149, zt_istore 9 151), (151, zt_aload 0 152), (152, zt_getR kd 8 0 5 155), (155, zt_lload 3 156), (156, zt_const (zL 1048576) 159), (159, zt_divL (fun x y => x / y) 160), (160, zt_const (zL 50) 163), (163, zt_divL (fun x y => x - x / y * y) 164), (164, zt_unL (fun x => zI x.toInt32) 165), (165, zt_call kd sp_X8_goYears 2 168), (168, zt_iinc 5 1 171), (171, zt_goto 41), (174, zt_aload 0 175), (175, zt_aload 0 176), (176, zt_getR kd 8 0 5 179), (179, zt_const (zI 126) 181), (181, zt_ald kd 0 182), (182, zt_call kd sp_X8_quarrels 2 185), (185, zt_iret K)]
set_option maxRecDepth 20000 in
theorem tk_X8_centuries (d : Nat) (h_X8_in : zMS 1 yX8_in cX8_in 6 (some .boolean) sp_X8_in) (h_X8_bad : zMS 1 yX8_bad cX8_bad 2 (some .int) sp_X8_bad) (h_X8_layHand : zMS 1 yX8_layHand cX8_layHand 2 none sp_X8_layHand) (h_X8_mayRub : zMS 2 yX8_mayRub cX8_mayRub 2 (some .boolean) sp_X8_mayRub) (h_X8_goRub : zMS 2 yX8_goRub cX8_goRub 3 (some .int) sp_X8_goRub) (h_X8_mayWrite : zMS 3 yX8_mayWrite cX8_mayWrite 2 (some .boolean) sp_X8_mayWrite) (h_X8_goWrite : zMS 2 yX8_goWrite cX8_goWrite 6 (some .int) sp_X8_goWrite) (h_X8_goYears : zMS 1 yX8_goYears cX8_goYears 2 none sp_X8_goYears) (h_X8_quarrels : zMS 8 yX8_quarrels cX8_quarrels 4 (some .int) sp_X8_quarrels) : zTrue RX8 cX8_centuries 10 (some .int) (d + 9) (fun kd K => tb_X8_centuries kd K) := by
  intro p l e R s m args below meth c D cy A ad bl Qm K C0 hr hlocks hQ
  obtain ⟨hx, hb, hml, hown, hts, hK, hD, hA0, hN, hE, ⟨hR1, hR2⟩, hc1, hc2⟩ := id C0
  unfold tb_X8_centuries
  refine List.forall_mem_cons.mpr ⟨ok_iload_n hx hb rfl dd_X8_centuries_0, ?_⟩
  refine List.forall_mem_cons.mpr ⟨ok_i2l hx hb dd_X8_centuries_1, ?_⟩
  refine List.forall_mem_cons.mpr ⟨ok_lconst hx hb dd_X8_centuries_2 (by decide), ?_⟩
  refine List.forall_mem_cons.mpr ⟨ok_ldc2 hx hb hown (hts _ wd_1142) dd_X8_centuries_3, ?_⟩
  refine List.forall_mem_cons.mpr ⟨ok_callS (n := 3) C0 (h_X8_in (d + 8) (by omega)) (by decide) wd_928 wd_926 wd_927 wd_107 ⟨by decide +kernel, by decide +kernel, by decide +kernel⟩ dd_X8_centuries_6, ?_⟩
  refine List.forall_mem_cons.mpr ⟨ok_if_eq hx hb dd_X8_centuries_9 (by decide), ?_⟩
  refine List.forall_mem_cons.mpr ⟨ok_iload_n hx hb rfl dd_X8_centuries_12, ?_⟩
  refine List.forall_mem_cons.mpr ⟨ok_i2l hx hb dd_X8_centuries_13, ?_⟩
  refine List.forall_mem_cons.mpr ⟨ok_lconst hx hb dd_X8_centuries_14 (by decide), ?_⟩
  refine List.forall_mem_cons.mpr ⟨ok_ldc2 hx hb hown (hts _ wd_1143) dd_X8_centuries_15, ?_⟩
  refine List.forall_mem_cons.mpr ⟨ok_callS (n := 3) C0 (h_X8_in (d + 8) (by omega)) (by decide) wd_928 wd_926 wd_927 wd_107 ⟨by decide +kernel, by decide +kernel, by decide +kernel⟩ dd_X8_centuries_18, ?_⟩
  refine List.forall_mem_cons.mpr ⟨ok_if_ne hx hb dd_X8_centuries_21 (by decide), ?_⟩
  refine List.forall_mem_cons.mpr ⟨ok_aload_n hx hb rfl dd_X8_centuries_24, ?_⟩
  refine List.forall_mem_cons.mpr ⟨ok_bipush hx hb dd_X8_centuries_25 (by decide), ?_⟩
  refine List.forall_mem_cons.mpr ⟨ok_callV (n := 1) zc_X8 rv_X8_bad C0 (h_X8_bad (d + 8) (by omega)) (by decide) wd_936 wd_933 wd_935 wd_62 wd_107 ⟨rfl, by decide +kernel, by decide +kernel, by decide +kernel⟩ dd_X8_centuries_27, ?_⟩
  refine List.forall_mem_cons.mpr ⟨ok_iret hx hb hr hlocks hQ dd_X8_centuries_30, ?_⟩
  refine List.forall_mem_cons.mpr ⟨ok_iload_n hx hb rfl dd_X8_centuries_31, ?_⟩
  refine List.forall_mem_cons.mpr ⟨ok_i2l hx hb dd_X8_centuries_32, ?_⟩
  refine List.forall_mem_cons.mpr ⟨ok_lstore_n hx hb rfl dd_X8_centuries_33, ?_⟩
  refine List.forall_mem_cons.mpr ⟨ok_aload_n hx hb rfl dd_X8_centuries_34, ?_⟩
  refine List.forall_mem_cons.mpr ⟨ok_callV (n := 0) zc_X8 rv_X8_layHand C0 (h_X8_layHand (d + 8) (by omega)) (by decide) wd_1000 wd_997 wd_999 wd_67 wd_107 ⟨rfl, by decide +kernel, by decide +kernel, by decide +kernel⟩ dd_X8_centuries_35, ?_⟩
  refine List.forall_mem_cons.mpr ⟨ok_iconst hx hb dd_X8_centuries_38 (by decide), ?_⟩
  refine List.forall_mem_cons.mpr ⟨ok_istore hx hb dd_X8_centuries_39, ?_⟩
  refine List.forall_mem_cons.mpr ⟨ok_iload hx hb dd_X8_centuries_41, ?_⟩
  refine List.forall_mem_cons.mpr ⟨ok_iload_n hx hb rfl dd_X8_centuries_43, ?_⟩
  refine List.forall_mem_cons.mpr ⟨ok_icmp_ge hx hb dd_X8_centuries_44 (by decide), ?_⟩
  refine List.forall_mem_cons.mpr ⟨ok_lload_n hx hb rfl dd_X8_centuries_47, ?_⟩
  refine List.forall_mem_cons.mpr ⟨ok_ldc2 hx hb hown (hts _ wd_1144) dd_X8_centuries_48, ?_⟩
  refine List.forall_mem_cons.mpr ⟨ok_lmul hx hb dd_X8_centuries_51, ?_⟩
  refine List.forall_mem_cons.mpr ⟨ok_ldc2 hx hb hown (hts _ wd_1145) dd_X8_centuries_52, ?_⟩
  refine List.forall_mem_cons.mpr ⟨ok_ladd hx hb dd_X8_centuries_55, ?_⟩
  refine List.forall_mem_cons.mpr ⟨ok_ldc2 hx hb hown (hts _ wd_1146) dd_X8_centuries_56, ?_⟩
  refine List.forall_mem_cons.mpr ⟨ok_lrem hx hb dd_X8_centuries_59, ?_⟩
  refine List.forall_mem_cons.mpr ⟨ok_lstore_n hx hb rfl dd_X8_centuries_60, ?_⟩
  refine List.forall_mem_cons.mpr ⟨ok_lload_n hx hb rfl dd_X8_centuries_61, ?_⟩
  refine List.forall_mem_cons.mpr ⟨ok_ldc2 hx hb hown (hts _ wd_1147) dd_X8_centuries_62, ?_⟩
  refine List.forall_mem_cons.mpr ⟨ok_ldiv hx hb dd_X8_centuries_65, ?_⟩
  refine List.forall_mem_cons.mpr ⟨ok_lstore hx hb dd_X8_centuries_66, ?_⟩
  refine List.forall_mem_cons.mpr ⟨ok_lload hx hb dd_X8_centuries_68, ?_⟩
  refine List.forall_mem_cons.mpr ⟨ok_ldc2 hx hb hown (hts _ wd_1148) dd_X8_centuries_70, ?_⟩
  refine List.forall_mem_cons.mpr ⟨ok_lrem hx hb dd_X8_centuries_73, ?_⟩
  refine List.forall_mem_cons.mpr ⟨ok_l2i hx hb dd_X8_centuries_74, ?_⟩
  refine List.forall_mem_cons.mpr ⟨ok_istore hx hb dd_X8_centuries_75, ?_⟩
  refine List.forall_mem_cons.mpr ⟨ok_aload_n hx hb rfl dd_X8_centuries_77, ?_⟩
  refine List.forall_mem_cons.mpr ⟨ok_getR (j := 6) hx hb hts zi_X8 hown hK zc_X8 (by decide) rfl (fun t fl h => by cases h; rfl) (hts _ wd_846) dd_X8_centuries_78, ?_⟩
  refine List.forall_mem_cons.mpr ⟨ok_iload hx hb dd_X8_centuries_81, ?_⟩
  refine List.forall_mem_cons.mpr ⟨ok_callS (n := 2) C0 (h_X8_mayRub (d + 8) (by omega)) (by decide) wd_939 wd_937 wd_938 wd_107 ⟨by decide +kernel, by decide +kernel, by decide +kernel⟩ dd_X8_centuries_83, ?_⟩
  refine List.forall_mem_cons.mpr ⟨ok_if_eq hx hb dd_X8_centuries_86 (by decide), ?_⟩
  refine List.forall_mem_cons.mpr ⟨ok_aload_n hx hb rfl dd_X8_centuries_89, ?_⟩
  refine List.forall_mem_cons.mpr ⟨ok_getR (j := 6) hx hb hts zi_X8 hown hK zc_X8 (by decide) rfl (fun t fl h => by cases h; rfl) (hts _ wd_846) dd_X8_centuries_90, ?_⟩
  refine List.forall_mem_cons.mpr ⟨ok_iload hx hb dd_X8_centuries_93, ?_⟩
  refine List.forall_mem_cons.mpr ⟨ok_callS (n := 2) C0 (h_X8_goRub (d + 8) (by omega)) (by decide) wd_964 wd_962 wd_963 wd_107 ⟨by decide +kernel, by decide +kernel, by decide +kernel⟩ dd_X8_centuries_95, ?_⟩
  refine List.forall_mem_cons.mpr ⟨ok_istore hx hb dd_X8_centuries_98, ?_⟩
  refine List.forall_mem_cons.mpr ⟨ok_goto hx hb dd_X8_centuries_100 (by decide), ?_⟩
  refine List.forall_mem_cons.mpr ⟨ok_aload_n hx hb rfl dd_X8_centuries_103, ?_⟩
  refine List.forall_mem_cons.mpr ⟨ok_getR (j := 6) hx hb hts zi_X8 hown hK zc_X8 (by decide) rfl (fun t fl h => by cases h; rfl) (hts _ wd_846) dd_X8_centuries_104, ?_⟩
  refine List.forall_mem_cons.mpr ⟨ok_iload hx hb dd_X8_centuries_107, ?_⟩
  refine List.forall_mem_cons.mpr ⟨ok_callS (n := 2) C0 (h_X8_mayWrite (d + 8) (by omega)) (by decide) wd_1073 wd_1071 wd_1072 wd_107 ⟨by decide +kernel, by decide +kernel, by decide +kernel⟩ dd_X8_centuries_109, ?_⟩
  refine List.forall_mem_cons.mpr ⟨ok_if_eq hx hb dd_X8_centuries_112 (by decide), ?_⟩
  refine List.forall_mem_cons.mpr ⟨ok_aload_n hx hb rfl dd_X8_centuries_115, ?_⟩
  refine List.forall_mem_cons.mpr ⟨ok_getR (j := 6) hx hb hts zi_X8 hown hK zc_X8 (by decide) rfl (fun t fl h => by cases h; rfl) (hts _ wd_846) dd_X8_centuries_116, ?_⟩
  refine List.forall_mem_cons.mpr ⟨ok_iload hx hb dd_X8_centuries_119, ?_⟩
  refine List.forall_mem_cons.mpr ⟨ok_lload hx hb dd_X8_centuries_121, ?_⟩
  refine List.forall_mem_cons.mpr ⟨ok_ldc2 hx hb hown (hts _ wd_1149) dd_X8_centuries_123, ?_⟩
  refine List.forall_mem_cons.mpr ⟨ok_lrem hx hb dd_X8_centuries_126, ?_⟩
  refine List.forall_mem_cons.mpr ⟨ok_ldc2 hx hb hown (hts _ wd_1148) dd_X8_centuries_127, ?_⟩
  refine List.forall_mem_cons.mpr ⟨ok_lrem hx hb dd_X8_centuries_130, ?_⟩
  refine List.forall_mem_cons.mpr ⟨ok_l2i hx hb dd_X8_centuries_131, ?_⟩
  refine List.forall_mem_cons.mpr ⟨ok_lload hx hb dd_X8_centuries_132, ?_⟩
  refine List.forall_mem_cons.mpr ⟨ok_ldc2 hx hb hown (hts _ wd_925) dd_X8_centuries_134, ?_⟩
  refine List.forall_mem_cons.mpr ⟨ok_lrem hx hb dd_X8_centuries_137, ?_⟩
  refine List.forall_mem_cons.mpr ⟨ok_l2i hx hb dd_X8_centuries_138, ?_⟩
  refine List.forall_mem_cons.mpr ⟨ok_lload hx hb dd_X8_centuries_139, ?_⟩
  refine List.forall_mem_cons.mpr ⟨ok_ldc2 hx hb hown (hts _ wd_1054) dd_X8_centuries_141, ?_⟩
  refine List.forall_mem_cons.mpr ⟨ok_lrem hx hb dd_X8_centuries_144, ?_⟩
  refine List.forall_mem_cons.mpr ⟨ok_l2i hx hb dd_X8_centuries_145, ?_⟩
  refine List.forall_mem_cons.mpr ⟨ok_callS (n := 5) C0 (h_X8_goWrite (d + 8) (by omega)) (by decide) wd_957 wd_955 wd_956 wd_107 ⟨by decide +kernel, by decide +kernel, by decide +kernel⟩ dd_X8_centuries_146, ?_⟩
  refine List.forall_mem_cons.mpr ⟨ok_istore hx hb dd_X8_centuries_149, ?_⟩
  refine List.forall_mem_cons.mpr ⟨ok_aload_n hx hb rfl dd_X8_centuries_151, ?_⟩
  refine List.forall_mem_cons.mpr ⟨ok_getR (j := 6) hx hb hts zi_X8 hown hK zc_X8 (by decide) rfl (fun t fl h => by cases h; rfl) (hts _ wd_846) dd_X8_centuries_152, ?_⟩
  refine List.forall_mem_cons.mpr ⟨ok_lload_n hx hb rfl dd_X8_centuries_155, ?_⟩
  refine List.forall_mem_cons.mpr ⟨ok_ldc2 hx hb hown (hts _ wd_1150) dd_X8_centuries_156, ?_⟩
  refine List.forall_mem_cons.mpr ⟨ok_ldiv hx hb dd_X8_centuries_159, ?_⟩
  refine List.forall_mem_cons.mpr ⟨ok_ldc2 hx hb hown (hts _ wd_1151) dd_X8_centuries_160, ?_⟩
  refine List.forall_mem_cons.mpr ⟨ok_lrem hx hb dd_X8_centuries_163, ?_⟩
  refine List.forall_mem_cons.mpr ⟨ok_l2i hx hb dd_X8_centuries_164, ?_⟩
  refine List.forall_mem_cons.mpr ⟨ok_callS (n := 2) C0 (h_X8_goYears (d + 8) (by omega)) (by decide) wd_972 wd_970 wd_971 wd_107 ⟨by decide +kernel, by decide +kernel, by decide +kernel⟩ dd_X8_centuries_165, ?_⟩
  refine List.forall_mem_cons.mpr ⟨ok_iinc hx hb dd_X8_centuries_168 (by decide), ?_⟩
  refine List.forall_mem_cons.mpr ⟨ok_goto hx hb dd_X8_centuries_171 (by decide), ?_⟩
  refine List.forall_mem_cons.mpr ⟨ok_aload_n hx hb rfl dd_X8_centuries_174, ?_⟩
  refine List.forall_mem_cons.mpr ⟨ok_aload_n hx hb rfl dd_X8_centuries_175, ?_⟩
  refine List.forall_mem_cons.mpr ⟨ok_getR (j := 6) hx hb hts zi_X8 hown hK zc_X8 (by decide) rfl (fun t fl h => by cases h; rfl) (hts _ wd_846) dd_X8_centuries_176, ?_⟩
  refine List.forall_mem_cons.mpr ⟨ok_bipush hx hb dd_X8_centuries_179 (by decide), ?_⟩
  refine List.forall_mem_cons.mpr ⟨ok_ald (ty := 0) rfl hx hb hK (Or.inl ⟨rfl, rfl, dd_X8_centuries_181⟩), ?_⟩
  refine List.forall_mem_cons.mpr ⟨ok_callV (n := 1) zc_X8 rv_X8_quarrels C0 (h_X8_quarrels (d + 8) (by omega)) (by decide) wd_1155 wd_1152 wd_1154 wd_87 wd_107 ⟨rfl, by decide +kernel, by decide +kernel, by decide +kernel⟩ dd_X8_centuries_182, ?_⟩
  refine List.forall_mem_cons.mpr ⟨ok_iret hx hb hr hlocks hQ dd_X8_centuries_185, ?_⟩
  exact fun _ h => absurd h List.not_mem_nil
set_option maxRecDepth 100000 in
theorem vc_X8_centuries_0 {kd : Nat → Nat} {K : zK} {X : zX} (hX : ∀ (n pc : Nat) (ls : zLS) (st : List zV) (M : zM), zrun (tb_X8_centuries kd K) [(41, [6, 7, 8, 9]), (61, [6, 7, 8, 9]), (77, [9]), (151, [6, 7, 8, 9])] n X pc ls st M → X pc ls st M) {x : Int32} {n : Int32} {M : zM} (hk0 : kd 9 = 8) (h : ∀ v1 : Int32, (v1 = zp ((0 : Int64).toInt ≤ x.toInt64.toInt ∧ x.toInt64.toInt ≤ (999999 : Int64).toInt)) → ((v1 = 0) → ∀ v2 : Int32, (v2 = (-2 : Int32)) → ∀ M2 : zM, (M2 = zmw M 9 4 (upd (M.1 9 4) 0 (M.1 9 4 0 + 1))) → K (some (zI (v2))) M2) ∧ ((¬ v1 = 0) → ∀ v3 : Int32, (v3 = zp ((0 : Int64).toInt ≤ n.toInt64.toInt ∧ n.toInt64.toInt ≤ (30 : Int64).toInt)) → ((¬ v3 = 0) → ∀ f4 : Nat → Int32, (∀ j9, j9 < 127 → f4 j9 = M.1 9 1 j9) → ∀ M4 : zM, (M4 = zmw M 9 5 f4) → X 41 [some (zR 9 0), some (zI (x)), some (zI (n)), some (zL (x.toInt64)), none, some (zI ((0 : Int32))), none, none, none, none] [] M4) ∧ ((v3 = 0) → ∀ v5 : Int32, (v5 = (-2 : Int32)) → ∀ M5 : zM, (M5 = zmw M 9 4 (upd (M.1 9 4) 0 (M.1 9 4 0 + 1))) → K (some (zI (v5))) M5))) : X 0 [some (zR 9 0), some (zI (x)), some (zI (n)), none, none, none, none, none, none, none] [] M := hX 21 0 _ [] M (show ∀ v1 : Int32, (v1 = zp ((0 : Int64).toInt ≤ x.toInt64.toInt ∧ x.toInt64.toInt ≤ (999999 : Int64).toInt)) → ((v1 = 0) → (kd 9 = 8) ∧ ∀ v2 : Int32, (v2 = (-2 : Int32)) → ∀ M2 : zM, (M2 = zmw M 9 4 (upd (M.1 9 4) 0 (M.1 9 4 0 + 1))) → K (some (zI (v2))) M2) ∧ ((¬ v1 = 0) → ∀ v3 : Int32, (v3 = zp ((0 : Int64).toInt ≤ n.toInt64.toInt ∧ n.toInt64.toInt ≤ (30 : Int64).toInt)) → ((¬ v3 = 0) → (kd 9 = 8) ∧ ∀ f4 : Nat → Int32, (∀ j9, j9 < 127 → f4 j9 = M.1 9 1 j9) → ∀ M4 : zM, (M4 = zmw M 9 5 f4) → X 41 [some (zR 9 0), some (zI (x)), some (zI (n)), some (zL (x.toInt64)), none, some (zI ((0 : Int32))), none, none, none, none] [] M4) ∧ ((v3 = 0) → (kd 9 = 8) ∧ ∀ v5 : Int32, (v5 = (-2 : Int32)) → ∀ M5 : zM, (M5 = zmw M 9 4 (upd (M.1 9 4) 0 (M.1 9 4 0 + 1))) → K (some (zI (v5))) M5)) from fun v1 => have h := h v1; fun q => have h := h q; ⟨fun q => have h := h.1 q; ⟨hk0, fun v2 => have h := h v2; fun q => have h := h q; fun M2 => have h := h M2; fun q => have h := h q; h⟩, fun q => have h := h.2 q; fun v3 => have h := h v3; fun q => have h := h q; ⟨fun q => have h := h.1 q; ⟨hk0, fun f4 => have h := h f4; fun q => have h := h q; fun M4 => have h := h M4; fun q => have h := h q; h⟩, fun q => have h := h.2 q; ⟨hk0, fun v5 => have h := h v5; fun q => have h := h q; fun M5 => have h := h M5; fun q => have h := h q; h⟩⟩⟩)
set_option maxRecDepth 100000 in
theorem vc_X8_centuries_41 {kd : Nat → Nat} {K : zK} {X : zX} (hX : ∀ (n pc : Nat) (ls : zLS) (st : List zV) (M : zM), zrun (tb_X8_centuries kd K) [(41, [6, 7, 8, 9]), (61, [6, 7, 8, 9]), (77, [9]), (151, [6, 7, 8, 9])] n X pc ls st M → X pc ls st M) {x : Int32} {n : Int32} {p : Int64} {k : Int32} {M : zM} (hk0 : kd 9 = 8) (h : ((n ≤ k) → (zin (kd 9) 5 0 (126 : Int32)) ∧ ∃ a1 : Sk, (RpF (M.1 9 5) a1) ∧ (0 ≤ (M.1 9 5 ((126 : Int32)).toNatClampNeg).toInt ∧ (M.1 9 5 ((126 : Int32)).toNatClampNeg).toInt < 1000000) ∧ ∀ v1 : Int32, (v1.toInt = sk_qu a1 (M.1 9 5 ((126 : Int32)).toNatClampNeg).toInt) → ∀ f1 : Nat → Int32, (∀ j9, j9 ≠ 7 → j9 ≠ 8 → f1 j9 = M.1 9 0 j9) → ∀ M1 : zM, (M1 = zmw M 9 0 f1) → K (some (zI (v1))) M1) ∧ ((¬ n ≤ k) → X 61 [some (zR 9 0), some (zI (x)), some (zI (n)), some (zL (((p * (1103515245 : Int64)) + (12345 : Int64)) - ((p * (1103515245 : Int64)) + (12345 : Int64)) / (2147483648 : Int64) * (2147483648 : Int64))), none, some (zI (k)), none, none, none, none] [] M)) : X 41 [some (zR 9 0), some (zI (x)), some (zI (n)), some (zL (p)), none, some (zI (k)), none, none, none, none] [] M := hX 13 41 _ [] M (show ((n ≤ k) → (kd 9 = 8) ∧ (zin (kd 9) 5 0 (126 : Int32)) ∧ (kd 9 = 8) ∧ ∃ a1 : Sk, (RpF (M.1 9 5) a1) ∧ (0 ≤ (M.1 9 5 ((126 : Int32)).toNatClampNeg).toInt ∧ (M.1 9 5 ((126 : Int32)).toNatClampNeg).toInt < 1000000) ∧ ∀ v1 : Int32, (v1.toInt = sk_qu a1 (M.1 9 5 ((126 : Int32)).toNatClampNeg).toInt) → ∀ f1 : Nat → Int32, (∀ j9, j9 ≠ 7 → j9 ≠ 8 → f1 j9 = M.1 9 0 j9) → ∀ M1 : zM, (M1 = zmw M 9 0 f1) → K (some (zI (v1))) M1) ∧ ((¬ n ≤ k) → (¬ (2147483648 : Int64) = 0) ∧ X 61 [some (zR 9 0), some (zI (x)), some (zI (n)), some (zL (((p * (1103515245 : Int64)) + (12345 : Int64)) - ((p * (1103515245 : Int64)) + (12345 : Int64)) / (2147483648 : Int64) * (2147483648 : Int64))), none, some (zI (k)), none, none, none, none] [] M) from ⟨fun q => have h := h.1 q; ⟨hk0, ⟨h.1, have h := h.2; ⟨hk0, h.elim (fun a1 h => ⟨a1, ⟨h.1, have h := h.2; ⟨h.1, have h := h.2; fun v1 => have h := h v1; fun q => have h := h q; fun f1 => have h := h f1; fun q => have h := h q; fun M1 => have h := h M1; fun q => have h := h q; h⟩⟩⟩)⟩⟩⟩, fun q => have h := h.2 q; ⟨(by decide), h⟩⟩)
set_option maxRecDepth 100000 in
theorem vc_X8_centuries_61 {kd : Nat → Nat} {K : zK} {X : zX} (hX : ∀ (n pc : Nat) (ls : zLS) (st : List zV) (M : zM), zrun (tb_X8_centuries kd K) [(41, [6, 7, 8, 9]), (61, [6, 7, 8, 9]), (77, [9]), (151, [6, 7, 8, 9])] n X pc ls st M → X pc ls st M) {x : Int32} {n : Int32} {p : Int64} {k : Int32} {M : zM}  (h : X 77 [some (zR 9 0), some (zI (x)), some (zI (n)), some (zL (p)), none, some (zI (k)), some (zL (p / (65536 : Int64))), none, some (zI (((p / (65536 : Int64)) - (p / (65536 : Int64)) / (6 : Int64) * (6 : Int64)).toInt32)), none] [] M) : X 61 [some (zR 9 0), some (zI (x)), some (zI (n)), some (zL (p)), none, some (zI (k)), none, none, none, none] [] M := hX 11 61 _ [] M (show (¬ (65536 : Int64) = 0) ∧ (¬ (6 : Int64) = 0) ∧ X 77 [some (zR 9 0), some (zI (x)), some (zI (n)), some (zL (p)), none, some (zI (k)), some (zL (p / (65536 : Int64))), none, some (zI (((p / (65536 : Int64)) - (p / (65536 : Int64)) / (6 : Int64) * (6 : Int64)).toInt32)), none] [] M from ⟨(by decide), ⟨(by decide), h⟩⟩)
set_option maxRecDepth 100000 in
theorem vc_X8_centuries_77 {kd : Nat → Nat} {K : zK} {X : zX} (hX : ∀ (n pc : Nat) (ls : zLS) (st : List zV) (M : zM), zrun (tb_X8_centuries kd K) [(41, [6, 7, 8, 9]), (61, [6, 7, 8, 9]), (77, [9]), (151, [6, 7, 8, 9])] n X pc ls st M → X pc ls st M) {x : Int32} {n : Int32} {p : Int64} {k : Int32} {q : Int64} {c : Int32} {M : zM} (hk0 : kd 9 = 8) (h : (5 = 1 ∨ 5 = 5 ∨ 5 = 10) ∧ ∃ a1 : Sk, (RpF (M.1 9 5) a1) ∧ (isC c.toInt) ∧ ∀ v1 : Int32, (v1 = zp (sk_canR a1 c.toInt = true)) → ((v1 = 0) → (5 = 1 ∨ 5 = 5 ∨ 5 = 10) ∧ ∃ a2 : Sk, (RpF (M.1 9 5) a2) ∧ (isC c.toInt) ∧ ∀ v2 : Int32, (v2 = zp (sk_canW a2 c.toInt = true)) → ((v2 = 0) → X 151 [some (zR 9 0), some (zI (x)), some (zI (n)), some (zL (p)), none, some (zI (k)), none, none, none, none] [] M) ∧ ((¬ v2 = 0) → (5 = 1 ∨ 5 = 5 ∨ 5 = 10) ∧ ∃ a3 : Sk, (RpF (M.1 9 5) a3) ∧ (isC c.toInt) ∧ (sk_canR a3 c.toInt = false) ∧ (sk_len a3 c.toInt < 4) ∧ (0 ≤ (((q - q / (7 : Int64) * (7 : Int64)) - (q - q / (7 : Int64) * (7 : Int64)) / (6 : Int64) * (6 : Int64)).toInt32).toInt ∧ (((q - q / (7 : Int64) * (7 : Int64)) - (q - q / (7 : Int64) * (7 : Int64)) / (6 : Int64) * (6 : Int64)).toInt32).toInt ≤ 5) ∧ (0 ≤ ((q - q / (5 : Int64) * (5 : Int64)).toInt32).toInt ∧ ((q - q / (5 : Int64) * (5 : Int64)).toInt32).toInt ≤ 4) ∧ (((q - q / (2 : Int64) * (2 : Int64)).toInt32).toInt = 0 ∨ ((q - q / (2 : Int64) * (2 : Int64)).toInt32).toInt = 1) ∧ ∀ v3 : Int32, (v3.toInt = sk_len a3 c.toInt) → ∀ f3 : Nat → Int32, (RpF f3 (sk_wr a3 c.toInt (((q - q / (7 : Int64) * (7 : Int64)) - (q - q / (7 : Int64) * (7 : Int64)) / (6 : Int64) * (6 : Int64)).toInt32).toInt ((q - q / (5 : Int64) * (5 : Int64)).toInt32).toInt ((q - q / (2 : Int64) * (2 : Int64)).toInt32).toInt)) → (∀ j9, 127 ≤ j9 → f3 j9 = M.1 9 5 j9) → ∀ M3 : zM, (M3 = zmw M 9 5 f3) → X 151 [some (zR 9 0), some (zI (x)), some (zI (n)), some (zL (p)), none, some (zI (k)), none, none, none, none] [] M3)) ∧ ((¬ v1 = 0) → (5 = 1 ∨ 5 = 5 ∨ 5 = 10) ∧ ∃ a4 : Sk, (RpF (M.1 9 5) a4) ∧ ∃ l4 : Ly, (sk_top a4 c.toInt = some l4) ∧ ∀ v4 : Int32, (v4.toInt = a4.2 - l4.2.2.2.1) → ∀ f4 : Nat → Int32, (RpF f4 (sk_rub a4 c.toInt)) → (∀ j9, 127 ≤ j9 → f4 j9 = M.1 9 5 j9) → ∀ M4 : zM, (M4 = zmw M 9 5 f4) → X 151 [some (zR 9 0), some (zI (x)), some (zI (n)), some (zL (p)), none, some (zI (k)), none, none, none, none] [] M4)) : X 77 [some (zR 9 0), some (zI (x)), some (zI (n)), some (zL (p)), none, some (zI (k)), some (zL (q)), none, some (zI (c)), none] [] M := hX 31 77 _ [] M (show (kd 9 = 8) ∧ (kd 9 = 8) ∧ (5 = 1 ∨ 5 = 5 ∨ 5 = 10) ∧ ∃ a1 : Sk, (RpF (M.1 9 5) a1) ∧ (isC c.toInt) ∧ ∀ v1 : Int32, (v1 = zp (sk_canR a1 c.toInt = true)) → ((v1 = 0) → (kd 9 = 8) ∧ (kd 9 = 8) ∧ (5 = 1 ∨ 5 = 5 ∨ 5 = 10) ∧ ∃ a2 : Sk, (RpF (M.1 9 5) a2) ∧ (isC c.toInt) ∧ ∀ v2 : Int32, (v2 = zp (sk_canW a2 c.toInt = true)) → ((v2 = 0) → X 151 [some (zR 9 0), some (zI (x)), some (zI (n)), some (zL (p)), none, some (zI (k)), none, none, none, none] [] M) ∧ ((¬ v2 = 0) → (kd 9 = 8) ∧ (¬ (7 : Int64) = 0) ∧ (¬ (6 : Int64) = 0) ∧ (¬ (5 : Int64) = 0) ∧ (¬ (2 : Int64) = 0) ∧ (kd 9 = 8) ∧ (5 = 1 ∨ 5 = 5 ∨ 5 = 10) ∧ ∃ a3 : Sk, (RpF (M.1 9 5) a3) ∧ (isC c.toInt) ∧ (sk_canR a3 c.toInt = false) ∧ (sk_len a3 c.toInt < 4) ∧ (0 ≤ (((q - q / (7 : Int64) * (7 : Int64)) - (q - q / (7 : Int64) * (7 : Int64)) / (6 : Int64) * (6 : Int64)).toInt32).toInt ∧ (((q - q / (7 : Int64) * (7 : Int64)) - (q - q / (7 : Int64) * (7 : Int64)) / (6 : Int64) * (6 : Int64)).toInt32).toInt ≤ 5) ∧ (0 ≤ ((q - q / (5 : Int64) * (5 : Int64)).toInt32).toInt ∧ ((q - q / (5 : Int64) * (5 : Int64)).toInt32).toInt ≤ 4) ∧ (((q - q / (2 : Int64) * (2 : Int64)).toInt32).toInt = 0 ∨ ((q - q / (2 : Int64) * (2 : Int64)).toInt32).toInt = 1) ∧ ∀ v3 : Int32, (v3.toInt = sk_len a3 c.toInt) → ∀ f3 : Nat → Int32, (RpF f3 (sk_wr a3 c.toInt (((q - q / (7 : Int64) * (7 : Int64)) - (q - q / (7 : Int64) * (7 : Int64)) / (6 : Int64) * (6 : Int64)).toInt32).toInt ((q - q / (5 : Int64) * (5 : Int64)).toInt32).toInt ((q - q / (2 : Int64) * (2 : Int64)).toInt32).toInt)) → (∀ j9, 127 ≤ j9 → f3 j9 = M.1 9 5 j9) → ∀ M3 : zM, (M3 = zmw M 9 5 f3) → X 151 [some (zR 9 0), some (zI (x)), some (zI (n)), some (zL (p)), none, some (zI (k)), none, none, none, none] [] M3)) ∧ ((¬ v1 = 0) → (kd 9 = 8) ∧ (kd 9 = 8) ∧ (5 = 1 ∨ 5 = 5 ∨ 5 = 10) ∧ ∃ a4 : Sk, (RpF (M.1 9 5) a4) ∧ ∃ l4 : Ly, (sk_top a4 c.toInt = some l4) ∧ ∀ v4 : Int32, (v4.toInt = a4.2 - l4.2.2.2.1) → ∀ f4 : Nat → Int32, (RpF f4 (sk_rub a4 c.toInt)) → (∀ j9, 127 ≤ j9 → f4 j9 = M.1 9 5 j9) → ∀ M4 : zM, (M4 = zmw M 9 5 f4) → X 151 [some (zR 9 0), some (zI (x)), some (zI (n)), some (zL (p)), none, some (zI (k)), none, none, none, none] [] M4) from ⟨hk0, ⟨hk0, ⟨h.1, have h := h.2; h.elim (fun a1 h => ⟨a1, ⟨h.1, have h := h.2; ⟨h.1, have h := h.2; fun v1 => have h := h v1; fun q => have h := h q; ⟨fun q => have h := h.1 q; ⟨hk0, ⟨hk0, ⟨h.1, have h := h.2; h.elim (fun a2 h => ⟨a2, ⟨h.1, have h := h.2; ⟨h.1, have h := h.2; fun v2 => have h := h v2; fun q => have h := h q; ⟨fun q => have h := h.1 q; h, fun q => have h := h.2 q; ⟨hk0, ⟨(by decide), ⟨(by decide), ⟨(by decide), ⟨(by decide), ⟨hk0, ⟨h.1, have h := h.2; h.elim (fun a3 h => ⟨a3, ⟨h.1, have h := h.2; ⟨h.1, have h := h.2; ⟨h.1, have h := h.2; ⟨h.1, have h := h.2; ⟨h.1, have h := h.2; ⟨h.1, have h := h.2; ⟨h.1, have h := h.2; fun v3 => have h := h v3; fun q => have h := h q; fun f3 => have h := h f3; fun q => have h := h q; fun q => have h := h q; fun M3 => have h := h M3; fun q => have h := h q; h⟩⟩⟩⟩⟩⟩⟩⟩)⟩⟩⟩⟩⟩⟩⟩⟩⟩⟩⟩)⟩⟩⟩, fun q => have h := h.2 q; ⟨hk0, ⟨hk0, ⟨h.1, have h := h.2; h.elim (fun a4 h => ⟨a4, ⟨h.1, have h := h.2; h.elim (fun l4 h => ⟨l4, ⟨h.1, have h := h.2; fun v4 => have h := h v4; fun q => have h := h q; fun f4 => have h := h f4; fun q => have h := h q; fun q => have h := h q; fun M4 => have h := h M4; fun q => have h := h q; h⟩⟩)⟩⟩)⟩⟩⟩⟩⟩⟩⟩)⟩⟩⟩)
set_option maxRecDepth 100000 in
theorem vc_X8_centuries_151 {kd : Nat → Nat} {K : zK} {X : zX} (hX : ∀ (n pc : Nat) (ls : zLS) (st : List zV) (M : zM), zrun (tb_X8_centuries kd K) [(41, [6, 7, 8, 9]), (61, [6, 7, 8, 9]), (77, [9]), (151, [6, 7, 8, 9])] n X pc ls st M → X pc ls st M) {x : Int32} {n : Int32} {p : Int64} {k : Int32} {M : zM} (hk0 : kd 9 = 8) (h : (5 = 1 ∨ 5 = 5 ∨ 5 = 10) ∧ ∃ a1 : Sk, (RpF (M.1 9 5) a1) ∧ (0 ≤ (((p / (1048576 : Int64)) - (p / (1048576 : Int64)) / (50 : Int64) * (50 : Int64)).toInt32).toInt ∧ (((p / (1048576 : Int64)) - (p / (1048576 : Int64)) / (50 : Int64) * (50 : Int64)).toInt32).toInt ≤ 99) ∧ ∀ f1 : Nat → Int32, (RpF f1 (sk_yr a1 (((p / (1048576 : Int64)) - (p / (1048576 : Int64)) / (50 : Int64) * (50 : Int64)).toInt32).toInt)) → (∀ j9, 127 ≤ j9 → f1 j9 = M.1 9 5 j9) → ∀ M1 : zM, (M1 = zmw M 9 5 f1) → X 41 [some (zR 9 0), some (zI (x)), some (zI (n)), some (zL (p)), none, some (zI (k + 1)), none, none, none, none] [] M1) : X 151 [some (zR 9 0), some (zI (x)), some (zI (n)), some (zL (p)), none, some (zI (k)), none, none, none, none] [] M := hX 13 151 _ [] M (show (kd 9 = 8) ∧ (¬ (1048576 : Int64) = 0) ∧ (¬ (50 : Int64) = 0) ∧ (kd 9 = 8) ∧ (5 = 1 ∨ 5 = 5 ∨ 5 = 10) ∧ ∃ a1 : Sk, (RpF (M.1 9 5) a1) ∧ (0 ≤ (((p / (1048576 : Int64)) - (p / (1048576 : Int64)) / (50 : Int64) * (50 : Int64)).toInt32).toInt ∧ (((p / (1048576 : Int64)) - (p / (1048576 : Int64)) / (50 : Int64) * (50 : Int64)).toInt32).toInt ≤ 99) ∧ ∀ f1 : Nat → Int32, (RpF f1 (sk_yr a1 (((p / (1048576 : Int64)) - (p / (1048576 : Int64)) / (50 : Int64) * (50 : Int64)).toInt32).toInt)) → (∀ j9, 127 ≤ j9 → f1 j9 = M.1 9 5 j9) → ∀ M1 : zM, (M1 = zmw M 9 5 f1) → X 41 [some (zR 9 0), some (zI (x)), some (zI (n)), some (zL (p)), none, some (zI (k + 1)), none, none, none, none] [] M1 from ⟨hk0, ⟨(by decide), ⟨(by decide), ⟨hk0, ⟨h.1, have h := h.2; h.elim (fun a1 h => ⟨a1, ⟨h.1, have h := h.2; ⟨h.1, have h := h.2; fun f1 => have h := h f1; fun q => have h := h q; fun q => have h := h q; fun M1 => have h := h M1; fun q => have h := h q; h⟩⟩⟩)⟩⟩⟩⟩⟩)
