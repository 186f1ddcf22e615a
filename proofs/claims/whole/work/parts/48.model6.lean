def sp_X8_keep : zSpec := fun kd as M K => match as with
  | [.inr (.inr (.inl (9, 0)))] => (kd 9 = 8) ∧ ∃ r : Rl, (RpW (M.1 9 1) r) ∧ ∀ f : Nat → Int32, (RpW f (r.1, hAdd r.2.1 r.1, r.2.2)) → ∀ M' : zM, (M' = zmw M 9 1 f) → K none M'
  | _ => False
theorem rv_X8_keep : zrv sp_X8_keep 8 0 := by
  intro kd as M K h
  unfold sp_X8_keep at h
  split at h
  · exact ⟨_, _, rfl, h.1⟩
  · exact h.elim
theorem dd_X8_keep_0 : decode cX8_keep 0 = .ok (.aload_n 0, 1) := by decide +kernel
theorem dd_X8_keep_1 : decode cX8_keep 1 = .ok (.getfield 7, 3) := by decide +kernel
theorem dd_X8_keep_4 : decode cX8_keep 4 = .ok (.sipush 128, 3) := by decide +kernel
theorem dd_X8_keep_7 : decode cX8_keep 7 = .ok (.iaload, 1) := by decide +kernel
theorem dd_X8_keep_8 : decode cX8_keep 8 = .ok (.bipush 6, 2) := by decide +kernel
theorem dd_X8_keep_10 : decode cX8_keep 10 = .ok (.if_icmp .ne 47, 3) := by decide +kernel
theorem dd_X8_keep_13 : decode cX8_keep 13 = .ok (.iconst 0, 1) := by decide +kernel
theorem dd_X8_keep_14 : decode cX8_keep 14 = .ok (.istore_n 1, 1) := by decide +kernel
theorem dd_X8_keep_15 : decode cX8_keep 15 = .ok (.iload_n 1, 1) := by decide +kernel
theorem dd_X8_keep_16 : decode cX8_keep 16 = .ok (.sipush 635, 3) := by decide +kernel
theorem dd_X8_keep_19 : decode cX8_keep 19 = .ok (.if_icmp .ge 29, 3) := by decide +kernel
theorem dd_X8_keep_22 : decode cX8_keep 22 = .ok (.aload_n 0, 1) := by decide +kernel
theorem dd_X8_keep_23 : decode cX8_keep 23 = .ok (.getfield 7, 3) := by decide +kernel
theorem dd_X8_keep_26 : decode cX8_keep 26 = .ok (.sipush 153, 3) := by decide +kernel
theorem dd_X8_keep_29 : decode cX8_keep 29 = .ok (.iload_n 1, 1) := by decide +kernel
theorem dd_X8_keep_30 : decode cX8_keep 30 = .ok (.iadd, 1) := by decide +kernel
theorem dd_X8_keep_31 : decode cX8_keep 31 = .ok (.aload_n 0, 1) := by decide +kernel
theorem dd_X8_keep_32 : decode cX8_keep 32 = .ok (.getfield 7, 3) := by decide +kernel
theorem dd_X8_keep_35 : decode cX8_keep 35 = .ok (.sipush 280, 3) := by decide +kernel
theorem dd_X8_keep_38 : decode cX8_keep 38 = .ok (.iload_n 1, 1) := by decide +kernel
theorem dd_X8_keep_39 : decode cX8_keep 39 = .ok (.iadd, 1) := by decide +kernel
theorem dd_X8_keep_40 : decode cX8_keep 40 = .ok (.iaload, 1) := by decide +kernel
theorem dd_X8_keep_41 : decode cX8_keep 41 = .ok (.iastore, 1) := by decide +kernel
theorem dd_X8_keep_42 : decode cX8_keep 42 = .ok (.iinc 1 1, 3) := by decide +kernel
theorem dd_X8_keep_45 : decode cX8_keep 45 = .ok (.goto (-30), 3) := by decide +kernel
theorem dd_X8_keep_48 : decode cX8_keep 48 = .ok (.aload_n 0, 1) := by decide +kernel
theorem dd_X8_keep_49 : decode cX8_keep 49 = .ok (.getfield 7, 3) := by decide +kernel
theorem dd_X8_keep_52 : decode cX8_keep 52 = .ok (.sipush 128, 3) := by decide +kernel
theorem dd_X8_keep_55 : decode cX8_keep 55 = .ok (.iconst 5, 1) := by decide +kernel
theorem dd_X8_keep_56 : decode cX8_keep 56 = .ok (.iastore, 1) := by decide +kernel
theorem dd_X8_keep_57 : decode cX8_keep 57 = .ok (.iconst 0, 1) := by decide +kernel
theorem dd_X8_keep_58 : decode cX8_keep 58 = .ok (.istore_n 1, 1) := by decide +kernel
theorem dd_X8_keep_59 : decode cX8_keep 59 = .ok (.iload_n 1, 1) := by decide +kernel
theorem dd_X8_keep_60 : decode cX8_keep 60 = .ok (.bipush 127, 2) := by decide +kernel
theorem dd_X8_keep_62 : decode cX8_keep 62 = .ok (.if_icmp .ge 37, 3) := by decide +kernel
theorem dd_X8_keep_65 : decode cX8_keep 65 = .ok (.aload_n 0, 1) := by decide +kernel
theorem dd_X8_keep_66 : decode cX8_keep 66 = .ok (.getfield 7, 3) := by decide +kernel
theorem dd_X8_keep_69 : decode cX8_keep 69 = .ok (.sipush 153, 3) := by decide +kernel
theorem dd_X8_keep_72 : decode cX8_keep 72 = .ok (.bipush 127, 2) := by decide +kernel
theorem dd_X8_keep_74 : decode cX8_keep 74 = .ok (.aload_n 0, 1) := by decide +kernel
theorem dd_X8_keep_75 : decode cX8_keep 75 = .ok (.getfield 7, 3) := by decide +kernel
theorem dd_X8_keep_78 : decode cX8_keep 78 = .ok (.sipush 128, 3) := by decide +kernel
theorem dd_X8_keep_81 : decode cX8_keep 81 = .ok (.iaload, 1) := by decide +kernel
theorem dd_X8_keep_82 : decode cX8_keep 82 = .ok (.imul, 1) := by decide +kernel
theorem dd_X8_keep_83 : decode cX8_keep 83 = .ok (.iadd, 1) := by decide +kernel
theorem dd_X8_keep_84 : decode cX8_keep 84 = .ok (.iload_n 1, 1) := by decide +kernel
theorem dd_X8_keep_85 : decode cX8_keep 85 = .ok (.iadd, 1) := by decide +kernel
theorem dd_X8_keep_86 : decode cX8_keep 86 = .ok (.aload_n 0, 1) := by decide +kernel
theorem dd_X8_keep_87 : decode cX8_keep 87 = .ok (.getfield 7, 3) := by decide +kernel
theorem dd_X8_keep_90 : decode cX8_keep 90 = .ok (.iload_n 1, 1) := by decide +kernel
theorem dd_X8_keep_91 : decode cX8_keep 91 = .ok (.iaload, 1) := by decide +kernel
theorem dd_X8_keep_92 : decode cX8_keep 92 = .ok (.iastore, 1) := by decide +kernel
theorem dd_X8_keep_93 : decode cX8_keep 93 = .ok (.iinc 1 1, 3) := by decide +kernel
theorem dd_X8_keep_96 : decode cX8_keep 96 = .ok (.goto (-37), 3) := by decide +kernel
theorem dd_X8_keep_99 : decode cX8_keep 99 = .ok (.aload_n 0, 1) := by decide +kernel
theorem dd_X8_keep_100 : decode cX8_keep 100 = .ok (.getfield 7, 3) := by decide +kernel
theorem dd_X8_keep_103 : decode cX8_keep 103 = .ok (.sipush 128, 3) := by decide +kernel
theorem dd_X8_keep_106 : decode cX8_keep 106 = .ok (.dup2, 1) := by decide +kernel
theorem dd_X8_keep_107 : decode cX8_keep 107 = .ok (.iaload, 1) := by decide +kernel
theorem dd_X8_keep_108 : decode cX8_keep 108 = .ok (.iconst 1, 1) := by decide +kernel
theorem dd_X8_keep_109 : decode cX8_keep 109 = .ok (.iadd, 1) := by decide +kernel
theorem dd_X8_keep_110 : decode cX8_keep 110 = .ok (.iastore, 1) := by decide +kernel
theorem dd_X8_keep_111 : decode cX8_keep 111 = .ok (.return_, 1) := by decide +kernel
def tb_X8_keep (kd : Nat → Nat) (K : zK) : zTab := [(0, zt_aload 0 1), (1, zt_getR kd 8 0 1 4), (4, zt_const (zI 128) 7), (7, zt_ald kd 0 8), (8, zt_const (zI 6) 10), (10, zt_icmp (fun x y => ¬ x = y) (fun x y => x = y) 57 13), (13, zt_const (zI 0) 14), (14, zt_istore 1 15), (15, zt_iload 1 16), (16, zt_const (zI 635) 19), (19, zt_icmp (fun x y => y ≤ x) (fun x y => ¬ y ≤ x) 48 22), (22, zt_aload 0 23), (23, zt_getR kd 8 0 1 26), (26, zt_const (zI 153) 29), (29, zt_iload 1 30), (30, zt_bin (fun x y => x + y) 31), (31, zt_aload 0 32), (32, zt_getR kd 8 0 1 35), (35, zt_const (zI 280) 38), (38, zt_iload 1 39), (39, zt_bin (fun x y => x + y) 40), (40, zt_ald kd 0 41), (41, zt_ast kd 0 42), (42, zt_iinc 1 1 45), (45, zt_goto 15), (48, zt_aload 0 49), (49, zt_getR kd 8 0 1 52), (52, zt_const (zI 128) 55), (55, zt_const (zI 5) 56), (56, zt_ast kd 0 57), (57, zt_const (zI 0) 58), (58, zt_istore 1 59), (59, zt_iload 1 60), (60, zt_const (zI 127) 62), (62, zt_icmp (fun x y => y ≤ x) (fun x y => ¬ y ≤ x) 99 65), (65, zt_aload 0 66), (66, zt_getR kd 8 0 1 69), (69, zt_const (zI 153) 72), (72, zt_const (zI 127) 74), (74, zt_aload 0 75), (75, zt_getR kd 8 0 1 78), (78, zt_const (zI 128) 81), (81, zt_ald kd 0 82), (82, zt_bin (fun x y => x * y) 83), (83, zt_bin (fun x y => x + y) 84), (84, zt_iload 1 85), (85, zt_bin (fun x y => x + y) 86), (86, zt_aload 0 87), (87, zt_getR kd 8 0 1 90), (90, zt_iload 1 91), (91, zt_ald kd 0 92), (92, zt_ast kd 0 93), (93, zt_iinc 1 1 96), (96, zt_goto 59), (99, zt_aload 0 100), (100, zt_getR kd 8 0 1 103), (103, zt_const (zI 128) 106), (106, zt_dup2 107), (107, zt_ald kd 0 108), (108, zt_const (zI 1) 109), (109, zt_bin (fun x y => x + y) 110), (110, zt_ast kd 0 111), (111, zt_vret K)]
set_option maxRecDepth 20000 in
theorem tk_X8_keep (d : Nat)  : zTrue RX8 cX8_keep 2 none (d + 1) (fun kd K => tb_X8_keep kd K) := by
  intro p l e R s m args below meth c D cy A ad bl Qm K C0 hr hlocks hQ
  obtain ⟨hx, hb, hml, hown, hts, hK, hD, hA0, hN, hE, ⟨hR1, hR2⟩, hc1, hc2⟩ := id C0
  unfold tb_X8_keep
  refine List.forall_mem_cons.mpr ⟨ok_aload_n hx hb rfl dd_X8_keep_0, ?_⟩
  refine List.forall_mem_cons.mpr ⟨ok_getR (j := 0) hx hb hts zi_X8 hown hK zc_X8 (by decide) rfl (fun t fl h => by cases h; rfl) (hts _ wd_840) dd_X8_keep_1, ?_⟩
  refine List.forall_mem_cons.mpr ⟨ok_sipush hx hb dd_X8_keep_4 (by decide), ?_⟩
  refine List.forall_mem_cons.mpr ⟨ok_ald (ty := 0) rfl hx hb hK (Or.inl ⟨rfl, rfl, dd_X8_keep_7⟩), ?_⟩
  refine List.forall_mem_cons.mpr ⟨ok_bipush hx hb dd_X8_keep_8 (by decide), ?_⟩
  refine List.forall_mem_cons.mpr ⟨ok_icmp_ne hx hb dd_X8_keep_10 (by decide), ?_⟩
  refine List.forall_mem_cons.mpr ⟨ok_iconst hx hb dd_X8_keep_13 (by decide), ?_⟩
  refine List.forall_mem_cons.mpr ⟨ok_istore_n hx hb rfl dd_X8_keep_14, ?_⟩
  refine List.forall_mem_cons.mpr ⟨ok_iload_n hx hb rfl dd_X8_keep_15, ?_⟩
  refine List.forall_mem_cons.mpr ⟨ok_sipush hx hb dd_X8_keep_16 (by decide), ?_⟩
  refine List.forall_mem_cons.mpr ⟨ok_icmp_ge hx hb dd_X8_keep_19 (by decide), ?_⟩
  refine List.forall_mem_cons.mpr ⟨ok_aload_n hx hb rfl dd_X8_keep_22, ?_⟩
  refine List.forall_mem_cons.mpr ⟨ok_getR (j := 0) hx hb hts zi_X8 hown hK zc_X8 (by decide) rfl (fun t fl h => by cases h; rfl) (hts _ wd_840) dd_X8_keep_23, ?_⟩
  refine List.forall_mem_cons.mpr ⟨ok_sipush hx hb dd_X8_keep_26 (by decide), ?_⟩
  refine List.forall_mem_cons.mpr ⟨ok_iload_n hx hb rfl dd_X8_keep_29, ?_⟩
  refine List.forall_mem_cons.mpr ⟨ok_iadd hx hb dd_X8_keep_30, ?_⟩
  refine List.forall_mem_cons.mpr ⟨ok_aload_n hx hb rfl dd_X8_keep_31, ?_⟩
  refine List.forall_mem_cons.mpr ⟨ok_getR (j := 0) hx hb hts zi_X8 hown hK zc_X8 (by decide) rfl (fun t fl h => by cases h; rfl) (hts _ wd_840) dd_X8_keep_32, ?_⟩
  refine List.forall_mem_cons.mpr ⟨ok_sipush hx hb dd_X8_keep_35 (by decide), ?_⟩
  refine List.forall_mem_cons.mpr ⟨ok_iload_n hx hb rfl dd_X8_keep_38, ?_⟩
  refine List.forall_mem_cons.mpr ⟨ok_iadd hx hb dd_X8_keep_39, ?_⟩
  refine List.forall_mem_cons.mpr ⟨ok_ald (ty := 0) rfl hx hb hK (Or.inl ⟨rfl, rfl, dd_X8_keep_40⟩), ?_⟩
  refine List.forall_mem_cons.mpr ⟨ok_ast (ty := 0) rfl hx hb hK hD (Or.inl ⟨rfl, rfl, dd_X8_keep_41⟩), ?_⟩
  refine List.forall_mem_cons.mpr ⟨ok_iinc hx hb dd_X8_keep_42 (by decide), ?_⟩
  refine List.forall_mem_cons.mpr ⟨ok_goto hx hb dd_X8_keep_45 (by decide), ?_⟩
  refine List.forall_mem_cons.mpr ⟨ok_aload_n hx hb rfl dd_X8_keep_48, ?_⟩
  refine List.forall_mem_cons.mpr ⟨ok_getR (j := 0) hx hb hts zi_X8 hown hK zc_X8 (by decide) rfl (fun t fl h => by cases h; rfl) (hts _ wd_840) dd_X8_keep_49, ?_⟩
  refine List.forall_mem_cons.mpr ⟨ok_sipush hx hb dd_X8_keep_52 (by decide), ?_⟩
  refine List.forall_mem_cons.mpr ⟨ok_iconst hx hb dd_X8_keep_55 (by decide), ?_⟩
  refine List.forall_mem_cons.mpr ⟨ok_ast (ty := 0) rfl hx hb hK hD (Or.inl ⟨rfl, rfl, dd_X8_keep_56⟩), ?_⟩
  refine List.forall_mem_cons.mpr ⟨ok_iconst hx hb dd_X8_keep_57 (by decide), ?_⟩
  refine List.forall_mem_cons.mpr ⟨ok_istore_n hx hb rfl dd_X8_keep_58, ?_⟩
  refine List.forall_mem_cons.mpr ⟨ok_iload_n hx hb rfl dd_X8_keep_59, ?_⟩
  refine List.forall_mem_cons.mpr ⟨ok_bipush hx hb dd_X8_keep_60 (by decide), ?_⟩
  refine List.forall_mem_cons.mpr ⟨ok_icmp_ge hx hb dd_X8_keep_62 (by decide), ?_⟩
  refine List.forall_mem_cons.mpr ⟨ok_aload_n hx hb rfl dd_X8_keep_65, ?_⟩
  refine List.forall_mem_cons.mpr ⟨ok_getR (j := 0) hx hb hts zi_X8 hown hK zc_X8 (by decide) rfl (fun t fl h => by cases h; rfl) (hts _ wd_840) dd_X8_keep_66, ?_⟩
  refine List.forall_mem_cons.mpr ⟨ok_sipush hx hb dd_X8_keep_69 (by decide), ?_⟩
  refine List.forall_mem_cons.mpr ⟨ok_bipush hx hb dd_X8_keep_72 (by decide), ?_⟩
  refine List.forall_mem_cons.mpr ⟨ok_aload_n hx hb rfl dd_X8_keep_74, ?_⟩
  refine List.forall_mem_cons.mpr ⟨ok_getR (j := 0) hx hb hts zi_X8 hown hK zc_X8 (by decide) rfl (fun t fl h => by cases h; rfl) (hts _ wd_840) dd_X8_keep_75, ?_⟩
  refine List.forall_mem_cons.mpr ⟨ok_sipush hx hb dd_X8_keep_78 (by decide), ?_⟩
  refine List.forall_mem_cons.mpr ⟨ok_ald (ty := 0) rfl hx hb hK (Or.inl ⟨rfl, rfl, dd_X8_keep_81⟩), ?_⟩
  refine List.forall_mem_cons.mpr ⟨ok_imul hx hb dd_X8_keep_82, ?_⟩
  refine List.forall_mem_cons.mpr ⟨ok_iadd hx hb dd_X8_keep_83, ?_⟩
  refine List.forall_mem_cons.mpr ⟨ok_iload_n hx hb rfl dd_X8_keep_84, ?_⟩
  refine List.forall_mem_cons.mpr ⟨ok_iadd hx hb dd_X8_keep_85, ?_⟩
  refine List.forall_mem_cons.mpr ⟨ok_aload_n hx hb rfl dd_X8_keep_86, ?_⟩
  refine List.forall_mem_cons.mpr ⟨ok_getR (j := 0) hx hb hts zi_X8 hown hK zc_X8 (by decide) rfl (fun t fl h => by cases h; rfl) (hts _ wd_840) dd_X8_keep_87, ?_⟩
  refine List.forall_mem_cons.mpr ⟨ok_iload_n hx hb rfl dd_X8_keep_90, ?_⟩
  refine List.forall_mem_cons.mpr ⟨ok_ald (ty := 0) rfl hx hb hK (Or.inl ⟨rfl, rfl, dd_X8_keep_91⟩), ?_⟩
  refine List.forall_mem_cons.mpr ⟨ok_ast (ty := 0) rfl hx hb hK hD (Or.inl ⟨rfl, rfl, dd_X8_keep_92⟩), ?_⟩
  refine List.forall_mem_cons.mpr ⟨ok_iinc hx hb dd_X8_keep_93 (by decide), ?_⟩
  refine List.forall_mem_cons.mpr ⟨ok_goto hx hb dd_X8_keep_96 (by decide), ?_⟩
  refine List.forall_mem_cons.mpr ⟨ok_aload_n hx hb rfl dd_X8_keep_99, ?_⟩
  refine List.forall_mem_cons.mpr ⟨ok_getR (j := 0) hx hb hts zi_X8 hown hK zc_X8 (by decide) rfl (fun t fl h => by cases h; rfl) (hts _ wd_840) dd_X8_keep_100, ?_⟩
  refine List.forall_mem_cons.mpr ⟨ok_sipush hx hb dd_X8_keep_103 (by decide), ?_⟩
  refine List.forall_mem_cons.mpr ⟨ok_dup2 hx hb dd_X8_keep_106, ?_⟩
  refine List.forall_mem_cons.mpr ⟨ok_ald (ty := 0) rfl hx hb hK (Or.inl ⟨rfl, rfl, dd_X8_keep_107⟩), ?_⟩
  refine List.forall_mem_cons.mpr ⟨ok_iconst hx hb dd_X8_keep_108 (by decide), ?_⟩
  refine List.forall_mem_cons.mpr ⟨ok_iadd hx hb dd_X8_keep_109, ?_⟩
  refine List.forall_mem_cons.mpr ⟨ok_ast (ty := 0) rfl hx hb hK hD (Or.inl ⟨rfl, rfl, dd_X8_keep_110⟩), ?_⟩
  refine List.forall_mem_cons.mpr ⟨ok_vret hx hb hr hlocks hQ dd_X8_keep_111, ?_⟩
  exact fun _ h => absurd h List.not_mem_nil
set_option maxRecDepth 100000 in
theorem vc_X8_keep_0 {kd : Nat → Nat} {K : zK} {X : zX} (hX : ∀ (n pc : Nat) (ls : zLS) (st : List zV) (M : zM), zrun (tb_X8_keep kd K) [(15, []), (57, [1]), (59, [])] n X pc ls st M → X pc ls st M)  {M : zM} (hk0 : kd 9 = 8) (h : (zin (kd 9) 1 0 (128 : Int32)) ∧ ((¬ (M.1 9 1 ((128 : Int32)).toNatClampNeg) = (6 : Int32)) → X 57 [some (zR 9 0), none] [] M) ∧ (((M.1 9 1 ((128 : Int32)).toNatClampNeg) = (6 : Int32)) → X 15 [some (zR 9 0), some (zI ((0 : Int32)))] [] M)) : X 0 [some (zR 9 0), none] [] M := hX 10 0 _ [] M (show (kd 9 = 8) ∧ (zin (kd 9) 1 0 (128 : Int32)) ∧ ((¬ (M.1 9 1 ((128 : Int32)).toNatClampNeg) = (6 : Int32)) → X 57 [some (zR 9 0), none] [] M) ∧ (((M.1 9 1 ((128 : Int32)).toNatClampNeg) = (6 : Int32)) → X 15 [some (zR 9 0), some (zI ((0 : Int32)))] [] M) from ⟨hk0, ⟨h.1, have h := h.2; ⟨fun q => have h := h.1 q; h, fun q => have h := h.2 q; h⟩⟩⟩)
set_option maxRecDepth 100000 in
theorem vc_X8_keep_15 {kd : Nat → Nat} {K : zK} {X : zX} (hX : ∀ (n pc : Nat) (ls : zLS) (st : List zV) (M : zM), zrun (tb_X8_keep kd K) [(15, []), (57, [1]), (59, [])] n X pc ls st M → X pc ls st M) {k : Int32} {M : zM} (hk0 : kd 9 = 8) (h : (((635 : Int32) ≤ k) → (zin (kd 9) 1 0 (128 : Int32)) ∧ ∀ M1 : zM, (M1 = zmw M 9 1 (upd (M.1 9 1) ((128 : Int32)).toNatClampNeg (5 : Int32))) → X 57 [some (zR 9 0), none] [] M1) ∧ ((¬ (635 : Int32) ≤ k) → (zin (kd 9) 1 0 ((280 : Int32) + k)) ∧ (zin (kd 9) 1 0 ((153 : Int32) + k)) ∧ ∀ M2 : zM, (M2 = zmw M 9 1 (upd (M.1 9 1) ((153 : Int32) + k).toNatClampNeg (M.1 9 1 ((280 : Int32) + k).toNatClampNeg))) → X 15 [some (zR 9 0), some (zI (k + 1))] [] M2)) : X 15 [some (zR 9 0), some (zI (k))] [] M := hX 19 15 _ [] M (show (((635 : Int32) ≤ k) → (kd 9 = 8) ∧ (zin (kd 9) 1 0 (128 : Int32)) ∧ ∀ M1 : zM, (M1 = zmw M 9 1 (upd (M.1 9 1) ((128 : Int32)).toNatClampNeg (5 : Int32))) → X 57 [some (zR 9 0), none] [] M1) ∧ ((¬ (635 : Int32) ≤ k) → (kd 9 = 8) ∧ (kd 9 = 8) ∧ (zin (kd 9) 1 0 ((280 : Int32) + k)) ∧ (zin (kd 9) 1 0 ((153 : Int32) + k)) ∧ ∀ M2 : zM, (M2 = zmw M 9 1 (upd (M.1 9 1) ((153 : Int32) + k).toNatClampNeg (M.1 9 1 ((280 : Int32) + k).toNatClampNeg))) → X 15 [some (zR 9 0), some (zI (k + 1))] [] M2) from ⟨fun q => have h := h.1 q; ⟨hk0, ⟨h.1, have h := h.2; fun M1 => have h := h M1; fun q => have h := h q; h⟩⟩, fun q => have h := h.2 q; ⟨hk0, ⟨hk0, ⟨h.1, have h := h.2; ⟨h.1, have h := h.2; fun M2 => have h := h M2; fun q => have h := h q; h⟩⟩⟩⟩⟩)
set_option maxRecDepth 100000 in
theorem vc_X8_keep_57 {kd : Nat → Nat} {K : zK} {X : zX} (hX : ∀ (n pc : Nat) (ls : zLS) (st : List zV) (M : zM), zrun (tb_X8_keep kd K) [(15, []), (57, [1]), (59, [])] n X pc ls st M → X pc ls st M)  {M : zM}  (h : X 59 [some (zR 9 0), some (zI ((0 : Int32)))] [] M) : X 57 [some (zR 9 0), none] [] M := hX 4 57 _ [] M (show X 59 [some (zR 9 0), some (zI ((0 : Int32)))] [] M from h)
set_option maxRecDepth 100000 in
theorem vc_X8_keep_59 {kd : Nat → Nat} {K : zK} {X : zX} (hX : ∀ (n pc : Nat) (ls : zLS) (st : List zV) (M : zM), zrun (tb_X8_keep kd K) [(15, []), (57, [1]), (59, [])] n X pc ls st M → X pc ls st M) {k : Int32} {M : zM} (hk0 : kd 9 = 8) (h : (((127 : Int32) ≤ k) → (zin (kd 9) 1 0 (128 : Int32)) ∧ (zin (kd 9) 1 0 (128 : Int32)) ∧ ∀ M1 : zM, (M1 = zmw M 9 1 (upd (M.1 9 1) ((128 : Int32)).toNatClampNeg ((M.1 9 1 ((128 : Int32)).toNatClampNeg) + (1 : Int32)))) → K none M1) ∧ ((¬ (127 : Int32) ≤ k) → (zin (kd 9) 1 0 (128 : Int32)) ∧ (zin (kd 9) 1 0 k) ∧ (zin (kd 9) 1 0 (((153 : Int32) + ((127 : Int32) * (M.1 9 1 ((128 : Int32)).toNatClampNeg))) + k)) ∧ ∀ M2 : zM, (M2 = zmw M 9 1 (upd (M.1 9 1) (((153 : Int32) + ((127 : Int32) * (M.1 9 1 ((128 : Int32)).toNatClampNeg))) + k).toNatClampNeg (M.1 9 1 (k).toNatClampNeg))) → X 59 [some (zR 9 0), some (zI (k + 1))] [] M2)) : X 59 [some (zR 9 0), some (zI (k))] [] M := hX 24 59 _ [] M (show (((127 : Int32) ≤ k) → (kd 9 = 8) ∧ (zin (kd 9) 1 0 (128 : Int32)) ∧ (zin (kd 9) 1 0 (128 : Int32)) ∧ ∀ M1 : zM, (M1 = zmw M 9 1 (upd (M.1 9 1) ((128 : Int32)).toNatClampNeg ((M.1 9 1 ((128 : Int32)).toNatClampNeg) + (1 : Int32)))) → K none M1) ∧ ((¬ (127 : Int32) ≤ k) → (kd 9 = 8) ∧ (kd 9 = 8) ∧ (zin (kd 9) 1 0 (128 : Int32)) ∧ (kd 9 = 8) ∧ (zin (kd 9) 1 0 k) ∧ (zin (kd 9) 1 0 (((153 : Int32) + ((127 : Int32) * (M.1 9 1 ((128 : Int32)).toNatClampNeg))) + k)) ∧ ∀ M2 : zM, (M2 = zmw M 9 1 (upd (M.1 9 1) (((153 : Int32) + ((127 : Int32) * (M.1 9 1 ((128 : Int32)).toNatClampNeg))) + k).toNatClampNeg (M.1 9 1 (k).toNatClampNeg))) → X 59 [some (zR 9 0), some (zI (k + 1))] [] M2) from ⟨fun q => have h := h.1 q; ⟨hk0, ⟨h.1, have h := h.2; ⟨h.1, have h := h.2; fun M1 => have h := h M1; fun q => have h := h q; h⟩⟩⟩, fun q => have h := h.2 q; ⟨hk0, ⟨hk0, ⟨h.1, have h := h.2; ⟨hk0, ⟨h.1, have h := h.2; ⟨h.1, have h := h.2; fun M2 => have h := h M2; fun q => have h := h q; h⟩⟩⟩⟩⟩⟩⟩)
def sp_X8_write : zSpec := fun kd as M K => match as with
  | [.inr (.inr (.inl (9, 0))), .inl c, .inl k, .inl g, .inl e] => (kd 9 = 8) ∧ ∃ s : St, (RpM M s) ∧ ∀ v : Int32, (v.toInt = (ev_write s c.toInt k.toInt g.toInt e.toInt).1) → ∀ M' : zM, (RpM M' (ev_write s c.toInt k.toInt g.toInt e.toInt).2) → (fr0 M M') → K (some (.inl v)) M'
  | _ => False
theorem rv_X8_write : zrv sp_X8_write 8 4 := by
  intro kd as M K h
  unfold sp_X8_write at h
  split at h
  · exact ⟨_, _, rfl, h.1⟩
  · exact h.elim
theorem dd_X8_write_0 : decode cX8_write 0 = .ok (.iload_n 1, 1) := by decide +kernel
theorem dd_X8_write_1 : decode cX8_write 1 = .ok (.invokestatic 74, 3) := by decide +kernel
theorem dd_X8_write_4 : decode cX8_write 4 = .ok (.ifCond .eq 33, 3) := by decide +kernel
theorem dd_X8_write_7 : decode cX8_write 7 = .ok (.iload_n 2, 1) := by decide +kernel
theorem dd_X8_write_8 : decode cX8_write 8 = .ok (.i2l, 1) := by decide +kernel
theorem dd_X8_write_9 : decode cX8_write 9 = .ok (.lconst 0, 1) := by decide +kernel
theorem dd_X8_write_10 : decode cX8_write 10 = .ok (.ldc2_w 52, 3) := by decide +kernel
theorem dd_X8_write_13 : decode cX8_write 13 = .ok (.invokestatic 54, 3) := by decide +kernel
theorem dd_X8_write_16 : decode cX8_write 16 = .ok (.ifCond .eq 21, 3) := by decide +kernel
theorem dd_X8_write_19 : decode cX8_write 19 = .ok (.iload_n 3, 1) := by decide +kernel
theorem dd_X8_write_20 : decode cX8_write 20 = .ok (.invokestatic 78, 3) := by decide +kernel
theorem dd_X8_write_23 : decode cX8_write 23 = .ok (.ifCond .eq 14, 3) := by decide +kernel
theorem dd_X8_write_26 : decode cX8_write 26 = .ok (.iload 4, 2) := by decide +kernel
theorem dd_X8_write_28 : decode cX8_write 28 = .ok (.i2l, 1) := by decide +kernel
theorem dd_X8_write_29 : decode cX8_write 29 = .ok (.lconst 0, 1) := by decide +kernel
theorem dd_X8_write_30 : decode cX8_write 30 = .ok (.lconst 1, 1) := by decide +kernel
theorem dd_X8_write_31 : decode cX8_write 31 = .ok (.invokestatic 54, 3) := by decide +kernel
theorem dd_X8_write_34 : decode cX8_write 34 = .ok (.ifCond .ne 10, 3) := by decide +kernel
theorem dd_X8_write_37 : decode cX8_write 37 = .ok (.aload_n 0, 1) := by decide +kernel
theorem dd_X8_write_38 : decode cX8_write 38 = .ok (.bipush (-2), 2) := by decide +kernel
theorem dd_X8_write_40 : decode cX8_write 40 = .ok (.invokevirtual 81, 3) := by decide +kernel
theorem dd_X8_write_43 : decode cX8_write 43 = .ok (.ireturn, 1) := by decide +kernel
theorem dd_X8_write_44 : decode cX8_write 44 = .ok (.aload_n 0, 1) := by decide +kernel
theorem dd_X8_write_45 : decode cX8_write 45 = .ok (.getfield 7, 3) := by decide +kernel
theorem dd_X8_write_48 : decode cX8_write 48 = .ok (.iload_n 1, 1) := by decide +kernel
theorem dd_X8_write_49 : decode cX8_write 49 = .ok (.invokestatic 66, 3) := by decide +kernel
theorem dd_X8_write_52 : decode cX8_write 52 = .ok (.ifCond .eq 8, 3) := by decide +kernel
theorem dd_X8_write_55 : decode cX8_write 55 = .ok (.aload_n 0, 1) := by decide +kernel
theorem dd_X8_write_56 : decode cX8_write 56 = .ok (.invokevirtual 85, 3) := by decide +kernel
theorem dd_X8_write_59 : decode cX8_write 59 = .ok (.ireturn, 1) := by decide +kernel
theorem dd_X8_write_60 : decode cX8_write 60 = .ok (.aload_n 0, 1) := by decide +kernel
theorem dd_X8_write_61 : decode cX8_write 61 = .ok (.getfield 7, 3) := by decide +kernel
theorem dd_X8_write_64 : decode cX8_write 64 = .ok (.iconst 0, 1) := by decide +kernel
theorem dd_X8_write_65 : decode cX8_write 65 = .ok (.iload_n 1, 1) := by decide +kernel
theorem dd_X8_write_66 : decode cX8_write 66 = .ok (.iadd, 1) := by decide +kernel
theorem dd_X8_write_67 : decode cX8_write 67 = .ok (.iaload, 1) := by decide +kernel
theorem dd_X8_write_68 : decode cX8_write 68 = .ok (.iconst 4, 1) := by decide +kernel
theorem dd_X8_write_69 : decode cX8_write 69 = .ok (.if_icmp .ne 8, 3) := by decide +kernel
theorem dd_X8_write_72 : decode cX8_write 72 = .ok (.aload_n 0, 1) := by decide +kernel
theorem dd_X8_write_73 : decode cX8_write 73 = .ok (.invokevirtual 89, 3) := by decide +kernel
theorem dd_X8_write_76 : decode cX8_write 76 = .ok (.ireturn, 1) := by decide +kernel
theorem dd_X8_write_77 : decode cX8_write 77 = .ok (.aload_n 0, 1) := by decide +kernel
theorem dd_X8_write_78 : decode cX8_write 78 = .ok (.invokevirtual 92, 3) := by decide +kernel
theorem dd_X8_write_81 : decode cX8_write 81 = .ok (.aload_n 0, 1) := by decide +kernel
theorem dd_X8_write_82 : decode cX8_write 82 = .ok (.getfield 7, 3) := by decide +kernel
theorem dd_X8_write_85 : decode cX8_write 85 = .ok (.iload_n 1, 1) := by decide +kernel
theorem dd_X8_write_86 : decode cX8_write 86 = .ok (.iload_n 2, 1) := by decide +kernel
theorem dd_X8_write_87 : decode cX8_write 87 = .ok (.iload_n 3, 1) := by decide +kernel
theorem dd_X8_write_88 : decode cX8_write 88 = .ok (.iload 4, 2) := by decide +kernel
theorem dd_X8_write_90 : decode cX8_write 90 = .ok (.invokestatic 95, 3) := by decide +kernel
theorem dd_X8_write_93 : decode cX8_write 93 = .ok (.ireturn, 1) := by decide +kernel
def tb_X8_write (kd : Nat → Nat) (K : zK) : zTab := [(0, zt_iload 1 1), (1, zt_call kd sp_X8_isCell 1 4), (4, zt_if (fun x => x = 0) (fun x => ¬ x = 0) 37 7), (7, zt_iload 2 8), (8, zt_un (fun x => zL x.toInt64) 9), (9, zt_const (zL 0) 10), (10, zt_const (zL 5) 13), (13, zt_call kd sp_X8_in 3 16), (16, zt_if (fun x => x = 0) (fun x => ¬ x = 0) 37 19), (19, zt_iload 3 20), (20, zt_call kd sp_X8_isThing 1 23), (23, zt_if (fun x => x = 0) (fun x => ¬ x = 0) 37 26), (26, zt_iload 4 28), (28, zt_un (fun x => zL x.toInt64) 29), (29, zt_const (zL 0) 30), (30, zt_const (zL 1) 31), (31, zt_call kd sp_X8_in 3 34), (34, zt_if (fun x => ¬ x = 0) (fun x => x = 0) 44 37), (37, zt_aload 0 38), (38, zt_const (zI (-2)) 40), (40, zt_call kd sp_X8_bad 2 43), (43, zt_iret K), (44, zt_aload 0 45), (45, zt_getR kd 8 0 1 48), (48, zt_iload 1 49), (49, zt_call kd sp_X8_mayRub 2 52), (52, zt_if (fun x => x = 0) (fun x => ¬ x = 0) 60 55), (55, zt_aload 0 56), (56, zt_call kd sp_X8_no 1 59), (59, zt_iret K), (60, zt_aload 0 61), (61, zt_getR kd 8 0 1 64), (64, zt_const (zI 0) 65), (65, zt_iload 1 66), (66, zt_bin (fun x y => x + y) 67), (67, zt_ald kd 0 68), (68, zt_const (zI 4) 69), (69, zt_icmp (fun x y => ¬ x = y) (fun x y => x = y) 77 72), (72, zt_aload 0 73), (73, zt_call kd sp_X8_full 1 76), (76, zt_iret K), (77, zt_aload 0 78), (78, zt_call kd sp_X8_keep 1 81), (81, zt_aload 0 82), (82, zt_getR kd 8 0 1 85), (85, zt_iload 1 86), (86, zt_iload 2 87), (87, zt_iload 3 88), (88, zt_iload 4 90), (90, zt_call kd sp_X8_goWrite 5 93), (93, zt_iret K)]
set_option maxRecDepth 20000 in
theorem tk_X8_write (d : Nat) (h_X8_isCell : zMS 2 yX8_isCell cX8_isCell 1 (some .boolean) sp_X8_isCell) (h_X8_in : zMS 1 yX8_in cX8_in 6 (some .boolean) sp_X8_in) (h_X8_isThing : zMS 2 yX8_isThing cX8_isThing 1 (some .boolean) sp_X8_isThing) (h_X8_bad : zMS 1 yX8_bad cX8_bad 2 (some .int) sp_X8_bad) (h_X8_mayRub : zMS 2 yX8_mayRub cX8_mayRub 2 (some .boolean) sp_X8_mayRub) (h_X8_no : zMS 1 yX8_no cX8_no 1 (some .int) sp_X8_no) (h_X8_full : zMS 1 yX8_full cX8_full 1 (some .int) sp_X8_full) (h_X8_keep : zMS 1 yX8_keep cX8_keep 2 none sp_X8_keep) (h_X8_goWrite : zMS 2 yX8_goWrite cX8_goWrite 6 (some .int) sp_X8_goWrite) : zTrue RX8 cX8_write 5 (some .int) (d + 3) (fun kd K => tb_X8_write kd K) := by
  intro p l e R s m args below meth c D cy A ad bl Qm K C0 hr hlocks hQ
  obtain ⟨hx, hb, hml, hown, hts, hK, hD, hA0, hN, hE, ⟨hR1, hR2⟩, hc1, hc2⟩ := id C0
  unfold tb_X8_write
  refine List.forall_mem_cons.mpr ⟨ok_iload_n hx hb rfl dd_X8_write_0, ?_⟩
  refine List.forall_mem_cons.mpr ⟨ok_callS (n := 1) C0 (h_X8_isCell (d + 2) (by omega)) (by decide) wd_924 wd_922 wd_923 wd_107 ⟨by decide +kernel, by decide +kernel, by decide +kernel⟩ dd_X8_write_1, ?_⟩
  refine List.forall_mem_cons.mpr ⟨ok_if_eq hx hb dd_X8_write_4 (by decide), ?_⟩
  refine List.forall_mem_cons.mpr ⟨ok_iload_n hx hb rfl dd_X8_write_7, ?_⟩
  refine List.forall_mem_cons.mpr ⟨ok_i2l hx hb dd_X8_write_8, ?_⟩
  refine List.forall_mem_cons.mpr ⟨ok_lconst hx hb dd_X8_write_9 (by decide), ?_⟩
  refine List.forall_mem_cons.mpr ⟨ok_ldc2 hx hb hown (hts _ wd_925) dd_X8_write_10, ?_⟩
  refine List.forall_mem_cons.mpr ⟨ok_callS (n := 3) C0 (h_X8_in (d + 2) (by omega)) (by decide) wd_928 wd_926 wd_927 wd_107 ⟨by decide +kernel, by decide +kernel, by decide +kernel⟩ dd_X8_write_13, ?_⟩
  refine List.forall_mem_cons.mpr ⟨ok_if_eq hx hb dd_X8_write_16 (by decide), ?_⟩
  refine List.forall_mem_cons.mpr ⟨ok_iload_n hx hb rfl dd_X8_write_19, ?_⟩
  refine List.forall_mem_cons.mpr ⟨ok_callS (n := 1) C0 (h_X8_isThing (d + 2) (by omega)) (by decide) wd_931 wd_929 wd_930 wd_107 ⟨by decide +kernel, by decide +kernel, by decide +kernel⟩ dd_X8_write_20, ?_⟩
  refine List.forall_mem_cons.mpr ⟨ok_if_eq hx hb dd_X8_write_23 (by decide), ?_⟩
  refine List.forall_mem_cons.mpr ⟨ok_iload hx hb dd_X8_write_26, ?_⟩
  refine List.forall_mem_cons.mpr ⟨ok_i2l hx hb dd_X8_write_28, ?_⟩
  refine List.forall_mem_cons.mpr ⟨ok_lconst hx hb dd_X8_write_29 (by decide), ?_⟩
  refine List.forall_mem_cons.mpr ⟨ok_lconst hx hb dd_X8_write_30 (by decide), ?_⟩
  refine List.forall_mem_cons.mpr ⟨ok_callS (n := 3) C0 (h_X8_in (d + 2) (by omega)) (by decide) wd_928 wd_926 wd_927 wd_107 ⟨by decide +kernel, by decide +kernel, by decide +kernel⟩ dd_X8_write_31, ?_⟩
  refine List.forall_mem_cons.mpr ⟨ok_if_ne hx hb dd_X8_write_34 (by decide), ?_⟩
  refine List.forall_mem_cons.mpr ⟨ok_aload_n hx hb rfl dd_X8_write_37, ?_⟩
  refine List.forall_mem_cons.mpr ⟨ok_bipush hx hb dd_X8_write_38 (by decide), ?_⟩
  refine List.forall_mem_cons.mpr ⟨ok_callV (n := 1) zc_X8 rv_X8_bad C0 (h_X8_bad (d + 2) (by omega)) (by decide) wd_936 wd_933 wd_935 wd_62 wd_107 ⟨rfl, by decide +kernel, by decide +kernel, by decide +kernel⟩ dd_X8_write_40, ?_⟩
  refine List.forall_mem_cons.mpr ⟨ok_iret hx hb hr hlocks hQ dd_X8_write_43, ?_⟩
  refine List.forall_mem_cons.mpr ⟨ok_aload_n hx hb rfl dd_X8_write_44, ?_⟩
  refine List.forall_mem_cons.mpr ⟨ok_getR (j := 0) hx hb hts zi_X8 hown hK zc_X8 (by decide) rfl (fun t fl h => by cases h; rfl) (hts _ wd_840) dd_X8_write_45, ?_⟩
  refine List.forall_mem_cons.mpr ⟨ok_iload_n hx hb rfl dd_X8_write_48, ?_⟩
  refine List.forall_mem_cons.mpr ⟨ok_callS (n := 2) C0 (h_X8_mayRub (d + 2) (by omega)) (by decide) wd_939 wd_937 wd_938 wd_107 ⟨by decide +kernel, by decide +kernel, by decide +kernel⟩ dd_X8_write_49, ?_⟩
  refine List.forall_mem_cons.mpr ⟨ok_if_eq hx hb dd_X8_write_52 (by decide), ?_⟩
  refine List.forall_mem_cons.mpr ⟨ok_aload_n hx hb rfl dd_X8_write_55, ?_⟩
  refine List.forall_mem_cons.mpr ⟨ok_callV (n := 0) zc_X8 rv_X8_no C0 (h_X8_no (d + 2) (by omega)) (by decide) wd_946 wd_943 wd_945 wd_63 wd_107 ⟨rfl, by decide +kernel, by decide +kernel, by decide +kernel⟩ dd_X8_write_56, ?_⟩
  refine List.forall_mem_cons.mpr ⟨ok_iret hx hb hr hlocks hQ dd_X8_write_59, ?_⟩
  refine List.forall_mem_cons.mpr ⟨ok_aload_n hx hb rfl dd_X8_write_60, ?_⟩
  refine List.forall_mem_cons.mpr ⟨ok_getR (j := 0) hx hb hts zi_X8 hown hK zc_X8 (by decide) rfl (fun t fl h => by cases h; rfl) (hts _ wd_840) dd_X8_write_61, ?_⟩
  refine List.forall_mem_cons.mpr ⟨ok_iconst hx hb dd_X8_write_64 (by decide), ?_⟩
  refine List.forall_mem_cons.mpr ⟨ok_iload_n hx hb rfl dd_X8_write_65, ?_⟩
  refine List.forall_mem_cons.mpr ⟨ok_iadd hx hb dd_X8_write_66, ?_⟩
  refine List.forall_mem_cons.mpr ⟨ok_ald (ty := 0) rfl hx hb hK (Or.inl ⟨rfl, rfl, dd_X8_write_67⟩), ?_⟩
  refine List.forall_mem_cons.mpr ⟨ok_iconst hx hb dd_X8_write_68 (by decide), ?_⟩
  refine List.forall_mem_cons.mpr ⟨ok_icmp_ne hx hb dd_X8_write_69 (by decide), ?_⟩
  refine List.forall_mem_cons.mpr ⟨ok_aload_n hx hb rfl dd_X8_write_72, ?_⟩
  refine List.forall_mem_cons.mpr ⟨ok_callV (n := 0) zc_X8 rv_X8_full C0 (h_X8_full (d + 2) (by omega)) (by decide) wd_950 wd_947 wd_949 wd_64 wd_107 ⟨rfl, by decide +kernel, by decide +kernel, by decide +kernel⟩ dd_X8_write_73, ?_⟩
  refine List.forall_mem_cons.mpr ⟨ok_iret hx hb hr hlocks hQ dd_X8_write_76, ?_⟩
  refine List.forall_mem_cons.mpr ⟨ok_aload_n hx hb rfl dd_X8_write_77, ?_⟩
  refine List.forall_mem_cons.mpr ⟨ok_callV (n := 0) zc_X8 rv_X8_keep C0 (h_X8_keep (d + 2) (by omega)) (by decide) wd_954 wd_951 wd_953 wd_65 wd_107 ⟨rfl, by decide +kernel, by decide +kernel, by decide +kernel⟩ dd_X8_write_78, ?_⟩
  refine List.forall_mem_cons.mpr ⟨ok_aload_n hx hb rfl dd_X8_write_81, ?_⟩
  refine List.forall_mem_cons.mpr ⟨ok_getR (j := 0) hx hb hts zi_X8 hown hK zc_X8 (by decide) rfl (fun t fl h => by cases h; rfl) (hts _ wd_840) dd_X8_write_82, ?_⟩
  refine List.forall_mem_cons.mpr ⟨ok_iload_n hx hb rfl dd_X8_write_85, ?_⟩
  refine List.forall_mem_cons.mpr ⟨ok_iload_n hx hb rfl dd_X8_write_86, ?_⟩
  refine List.forall_mem_cons.mpr ⟨ok_iload_n hx hb rfl dd_X8_write_87, ?_⟩
  refine List.forall_mem_cons.mpr ⟨ok_iload hx hb dd_X8_write_88, ?_⟩
  refine List.forall_mem_cons.mpr ⟨ok_callS (n := 5) C0 (h_X8_goWrite (d + 2) (by omega)) (by decide) wd_957 wd_955 wd_956 wd_107 ⟨by decide +kernel, by decide +kernel, by decide +kernel⟩ dd_X8_write_90, ?_⟩
  refine List.forall_mem_cons.mpr ⟨ok_iret hx hb hr hlocks hQ dd_X8_write_93, ?_⟩
  exact fun _ h => absurd h List.not_mem_nil
set_option maxRecDepth 100000 in
theorem vc_X8_write_0 {kd : Nat → Nat} {K : zK} {X : zX} (hX : ∀ (n pc : Nat) (ls : zLS) (st : List zV) (M : zM), zrun (tb_X8_write kd K) [] n X pc ls st M → X pc ls st M) {c : Int32} {k : Int32} {g : Int32} {e : Int32} {M : zM} (hk0 : kd 9 = 8) (h : ∀ v1 : Int32, (v1 = zp (isC c.toInt)) → ((v1 = 0) → ∀ v2 : Int32, (v2 = (-2 : Int32)) → ∀ M2 : zM, (M2 = zmw M 9 4 (upd (M.1 9 4) 0 (M.1 9 4 0 + 1))) → K (some (zI (v2))) M2) ∧ ((¬ v1 = 0) → ∀ v3 : Int32, (v3 = zp ((0 : Int64).toInt ≤ k.toInt64.toInt ∧ k.toInt64.toInt ≤ (5 : Int64).toInt)) → ((v3 = 0) → ∀ v4 : Int32, (v4 = (-2 : Int32)) → ∀ M4 : zM, (M4 = zmw M 9 4 (upd (M.1 9 4) 0 (M.1 9 4 0 + 1))) → K (some (zI (v4))) M4) ∧ ((¬ v3 = 0) → ∀ v5 : Int32, (v5 = zp (isT g.toInt)) → ((v5 = 0) → ∀ v6 : Int32, (v6 = (-2 : Int32)) → ∀ M6 : zM, (M6 = zmw M 9 4 (upd (M.1 9 4) 0 (M.1 9 4 0 + 1))) → K (some (zI (v6))) M6) ∧ ((¬ v5 = 0) → ∀ v7 : Int32, (v7 = zp ((0 : Int64).toInt ≤ e.toInt64.toInt ∧ e.toInt64.toInt ≤ (1 : Int64).toInt)) → ((¬ v7 = 0) → (1 = 1 ∨ 1 = 5 ∨ 1 = 10) ∧ ∃ a8 : Sk, (RpF (M.1 9 1) a8) ∧ (isC c.toInt) ∧ ∀ v8 : Int32, (v8 = zp (sk_canR a8 c.toInt = true)) → ((v8 = 0) → (zin (kd 9) 1 0 ((0 : Int32) + c)) ∧ ((¬ (M.1 9 1 ((0 : Int32) + c).toNatClampNeg) = (4 : Int32)) → ∃ r9 : Rl, (RpW (M.1 9 1) r9) ∧ ∀ f9 : Nat → Int32, (RpW f9 (r9.1, hAdd r9.2.1 r9.1, r9.2.2)) → ∀ M9 : zM, (M9 = zmw M 9 1 f9) → (1 = 1 ∨ 1 = 5 ∨ 1 = 10) ∧ ∃ a10 : Sk, (RpF (M9.1 9 1) a10) ∧ (isC c.toInt) ∧ (sk_canR a10 c.toInt = false) ∧ (sk_len a10 c.toInt < 4) ∧ (0 ≤ k.toInt ∧ k.toInt ≤ 5) ∧ (0 ≤ g.toInt ∧ g.toInt ≤ 4) ∧ (e.toInt = 0 ∨ e.toInt = 1) ∧ ∀ v10 : Int32, (v10.toInt = sk_len a10 c.toInt) → ∀ f10 : Nat → Int32, (RpF f10 (sk_wr a10 c.toInt k.toInt g.toInt e.toInt)) → (∀ j9, 127 ≤ j9 → f10 j9 = M9.1 9 1 j9) → ∀ M10 : zM, (M10 = zmw M9 9 1 f10) → K (some (zI (v10))) M10) ∧ (((M.1 9 1 ((0 : Int32) + c).toNatClampNeg) = (4 : Int32)) → ∀ v11 : Int32, (v11.toInt = -4) → ∀ M11 : zM, (M11 = zmw M 9 4 (upd (M.1 9 4) 2 (M.1 9 4 2 + 1))) → K (some (zI (v11))) M11)) ∧ ((¬ v8 = 0) → ∀ v12 : Int32, (v12.toInt = -3) → ∀ M12 : zM, (M12 = zmw M 9 4 (upd (M.1 9 4) 1 (M.1 9 4 1 + 1))) → K (some (zI (v12))) M12)) ∧ ((v7 = 0) → ∀ v13 : Int32, (v13 = (-2 : Int32)) → ∀ M13 : zM, (M13 = zmw M 9 4 (upd (M.1 9 4) 0 (M.1 9 4 0 + 1))) → K (some (zI (v13))) M13))))) : X 0 [some (zR 9 0), some (zI (c)), some (zI (k)), some (zI (g)), some (zI (e))] [] M := hX 42 0 _ [] M (show ∀ v1 : Int32, (v1 = zp (isC c.toInt)) → ((v1 = 0) → (kd 9 = 8) ∧ ∀ v2 : Int32, (v2 = (-2 : Int32)) → ∀ M2 : zM, (M2 = zmw M 9 4 (upd (M.1 9 4) 0 (M.1 9 4 0 + 1))) → K (some (zI (v2))) M2) ∧ ((¬ v1 = 0) → ∀ v3 : Int32, (v3 = zp ((0 : Int64).toInt ≤ k.toInt64.toInt ∧ k.toInt64.toInt ≤ (5 : Int64).toInt)) → ((v3 = 0) → (kd 9 = 8) ∧ ∀ v4 : Int32, (v4 = (-2 : Int32)) → ∀ M4 : zM, (M4 = zmw M 9 4 (upd (M.1 9 4) 0 (M.1 9 4 0 + 1))) → K (some (zI (v4))) M4) ∧ ((¬ v3 = 0) → ∀ v5 : Int32, (v5 = zp (isT g.toInt)) → ((v5 = 0) → (kd 9 = 8) ∧ ∀ v6 : Int32, (v6 = (-2 : Int32)) → ∀ M6 : zM, (M6 = zmw M 9 4 (upd (M.1 9 4) 0 (M.1 9 4 0 + 1))) → K (some (zI (v6))) M6) ∧ ((¬ v5 = 0) → ∀ v7 : Int32, (v7 = zp ((0 : Int64).toInt ≤ e.toInt64.toInt ∧ e.toInt64.toInt ≤ (1 : Int64).toInt)) → ((¬ v7 = 0) → (kd 9 = 8) ∧ (kd 9 = 8) ∧ (1 = 1 ∨ 1 = 5 ∨ 1 = 10) ∧ ∃ a8 : Sk, (RpF (M.1 9 1) a8) ∧ (isC c.toInt) ∧ ∀ v8 : Int32, (v8 = zp (sk_canR a8 c.toInt = true)) → ((v8 = 0) → (kd 9 = 8) ∧ (zin (kd 9) 1 0 ((0 : Int32) + c)) ∧ ((¬ (M.1 9 1 ((0 : Int32) + c).toNatClampNeg) = (4 : Int32)) → (kd 9 = 8) ∧ ∃ r9 : Rl, (RpW (M.1 9 1) r9) ∧ ∀ f9 : Nat → Int32, (RpW f9 (r9.1, hAdd r9.2.1 r9.1, r9.2.2)) → ∀ M9 : zM, (M9 = zmw M 9 1 f9) → (kd 9 = 8) ∧ (kd 9 = 8) ∧ (1 = 1 ∨ 1 = 5 ∨ 1 = 10) ∧ ∃ a10 : Sk, (RpF (M9.1 9 1) a10) ∧ (isC c.toInt) ∧ (sk_canR a10 c.toInt = false) ∧ (sk_len a10 c.toInt < 4) ∧ (0 ≤ k.toInt ∧ k.toInt ≤ 5) ∧ (0 ≤ g.toInt ∧ g.toInt ≤ 4) ∧ (e.toInt = 0 ∨ e.toInt = 1) ∧ ∀ v10 : Int32, (v10.toInt = sk_len a10 c.toInt) → ∀ f10 : Nat → Int32, (RpF f10 (sk_wr a10 c.toInt k.toInt g.toInt e.toInt)) → (∀ j9, 127 ≤ j9 → f10 j9 = M9.1 9 1 j9) → ∀ M10 : zM, (M10 = zmw M9 9 1 f10) → K (some (zI (v10))) M10) ∧ (((M.1 9 1 ((0 : Int32) + c).toNatClampNeg) = (4 : Int32)) → (kd 9 = 8) ∧ ∀ v11 : Int32, (v11.toInt = -4) → ∀ M11 : zM, (M11 = zmw M 9 4 (upd (M.1 9 4) 2 (M.1 9 4 2 + 1))) → K (some (zI (v11))) M11)) ∧ ((¬ v8 = 0) → (kd 9 = 8) ∧ ∀ v12 : Int32, (v12.toInt = -3) → ∀ M12 : zM, (M12 = zmw M 9 4 (upd (M.1 9 4) 1 (M.1 9 4 1 + 1))) → K (some (zI (v12))) M12)) ∧ ((v7 = 0) → (kd 9 = 8) ∧ ∀ v13 : Int32, (v13 = (-2 : Int32)) → ∀ M13 : zM, (M13 = zmw M 9 4 (upd (M.1 9 4) 0 (M.1 9 4 0 + 1))) → K (some (zI (v13))) M13)))) from fun v1 => have h := h v1; fun q => have h := h q; ⟨fun q => have h := h.1 q; ⟨hk0, fun v2 => have h := h v2; fun q => have h := h q; fun M2 => have h := h M2; fun q => have h := h q; h⟩, fun q => have h := h.2 q; fun v3 => have h := h v3; fun q => have h := h q; ⟨fun q => have h := h.1 q; ⟨hk0, fun v4 => have h := h v4; fun q => have h := h q; fun M4 => have h := h M4; fun q => have h := h q; h⟩, fun q => have h := h.2 q; fun v5 => have h := h v5; fun q => have h := h q; ⟨fun q => have h := h.1 q; ⟨hk0, fun v6 => have h := h v6; fun q => have h := h q; fun M6 => have h := h M6; fun q => have h := h q; h⟩, fun q => have h := h.2 q; fun v7 => have h := h v7; fun q => have h := h q; ⟨fun q => have h := h.1 q; ⟨hk0, ⟨hk0, ⟨h.1, have h := h.2; h.elim (fun a8 h => ⟨a8, ⟨h.1, have h := h.2; ⟨h.1, have h := h.2; fun v8 => have h := h v8; fun q => have h := h q; ⟨fun q => have h := h.1 q; ⟨hk0, ⟨h.1, have h := h.2; ⟨fun q => have h := h.1 q; ⟨hk0, h.elim (fun r9 h => ⟨r9, ⟨h.1, have h := h.2; fun f9 => have h := h f9; fun q => have h := h q; fun M9 => have h := h M9; fun q => have h := h q; ⟨hk0, ⟨hk0, ⟨h.1, have h := h.2; h.elim (fun a10 h => ⟨a10, ⟨h.1, have h := h.2; ⟨h.1, have h := h.2; ⟨h.1, have h := h.2; ⟨h.1, have h := h.2; ⟨h.1, have h := h.2; ⟨h.1, have h := h.2; ⟨h.1, have h := h.2; fun v10 => have h := h v10; fun q => have h := h q; fun f10 => have h := h f10; fun q => have h := h q; fun q => have h := h q; fun M10 => have h := h M10; fun q => have h := h q; h⟩⟩⟩⟩⟩⟩⟩⟩)⟩⟩⟩⟩⟩)⟩, fun q => have h := h.2 q; ⟨hk0, fun v11 => have h := h v11; fun q => have h := h q; fun M11 => have h := h M11; fun q => have h := h q; h⟩⟩⟩⟩, fun q => have h := h.2 q; ⟨hk0, fun v12 => have h := h v12; fun q => have h := h q; fun M12 => have h := h M12; fun q => have h := h q; h⟩⟩⟩⟩⟩)⟩⟩⟩, fun q => have h := h.2 q; ⟨hk0, fun v13 => have h := h v13; fun q => have h := h q; fun M13 => have h := h M13; fun q => have h := h q; h⟩⟩⟩⟩⟩)
def sp_X8_rub : zSpec := fun kd as M K => match as with
  | [.inr (.inr (.inl (9, 0))), .inl c] => (kd 9 = 8) ∧ ∃ s : St, (RpM M s) ∧ ∀ v : Int32, (v.toInt = (ev_rub s c.toInt).1) → ∀ M' : zM, (RpM M' (ev_rub s c.toInt).2) → (fr0 M M') → K (some (.inl v)) M'
  | _ => False
theorem rv_X8_rub : zrv sp_X8_rub 8 1 := by
  intro kd as M K h
  unfold sp_X8_rub at h
  split at h
  · exact ⟨_, _, rfl, h.1⟩
  · exact h.elim
theorem dd_X8_rub_0 : decode cX8_rub 0 = .ok (.iload_n 1, 1) := by decide +kernel
theorem dd_X8_rub_1 : decode cX8_rub 1 = .ok (.invokestatic 74, 3) := by decide +kernel
theorem dd_X8_rub_4 : decode cX8_rub 4 = .ok (.ifCond .ne 10, 3) := by decide +kernel
theorem dd_X8_rub_7 : decode cX8_rub 7 = .ok (.aload_n 0, 1) := by decide +kernel
theorem dd_X8_rub_8 : decode cX8_rub 8 = .ok (.bipush (-2), 2) := by decide +kernel
theorem dd_X8_rub_10 : decode cX8_rub 10 = .ok (.invokevirtual 81, 3) := by decide +kernel
theorem dd_X8_rub_13 : decode cX8_rub 13 = .ok (.ireturn, 1) := by decide +kernel
theorem dd_X8_rub_14 : decode cX8_rub 14 = .ok (.aload_n 0, 1) := by decide +kernel
theorem dd_X8_rub_15 : decode cX8_rub 15 = .ok (.getfield 7, 3) := by decide +kernel
theorem dd_X8_rub_18 : decode cX8_rub 18 = .ok (.iload_n 1, 1) := by decide +kernel
theorem dd_X8_rub_19 : decode cX8_rub 19 = .ok (.invokestatic 66, 3) := by decide +kernel
theorem dd_X8_rub_22 : decode cX8_rub 22 = .ok (.ifCond .ne 8, 3) := by decide +kernel
theorem dd_X8_rub_25 : decode cX8_rub 25 = .ok (.aload_n 0, 1) := by decide +kernel
theorem dd_X8_rub_26 : decode cX8_rub 26 = .ok (.invokevirtual 85, 3) := by decide +kernel
theorem dd_X8_rub_29 : decode cX8_rub 29 = .ok (.ireturn, 1) := by decide +kernel
theorem dd_X8_rub_30 : decode cX8_rub 30 = .ok (.aload_n 0, 1) := by decide +kernel
theorem dd_X8_rub_31 : decode cX8_rub 31 = .ok (.invokevirtual 92, 3) := by decide +kernel
theorem dd_X8_rub_34 : decode cX8_rub 34 = .ok (.aload_n 0, 1) := by decide +kernel
theorem dd_X8_rub_35 : decode cX8_rub 35 = .ok (.getfield 7, 3) := by decide +kernel
theorem dd_X8_rub_38 : decode cX8_rub 38 = .ok (.iload_n 1, 1) := by decide +kernel
theorem dd_X8_rub_39 : decode cX8_rub 39 = .ok (.invokestatic 99, 3) := by decide +kernel
theorem dd_X8_rub_42 : decode cX8_rub 42 = .ok (.ireturn, 1) := by decide +kernel
def tb_X8_rub (kd : Nat → Nat) (K : zK) : zTab := [(0, zt_iload 1 1), (1, zt_call kd sp_X8_isCell 1 4), (4, zt_if (fun x => ¬ x = 0) (fun x => x = 0) 14 7), (7, zt_aload 0 8), (8, zt_const (zI (-2)) 10), (10, zt_call kd sp_X8_bad 2 13), (13, zt_iret K), (14, zt_aload 0 15), (15, zt_getR kd 8 0 1 18), (18, zt_iload 1 19), (19, zt_call kd sp_X8_mayRub 2 22), (22, zt_if (fun x => ¬ x = 0) (fun x => x = 0) 30 25), (25, zt_aload 0 26), (26, zt_call kd sp_X8_no 1 29), (29, zt_iret K), (30, zt_aload 0 31), (31, zt_call kd sp_X8_keep 1 34), (34, zt_aload 0 35), (35, zt_getR kd 8 0 1 38), (38, zt_iload 1 39), (39, zt_call kd sp_X8_goRub 2 42), (42, zt_iret K)]
set_option maxRecDepth 20000 in
theorem tk_X8_rub (d : Nat) (h_X8_isCell : zMS 2 yX8_isCell cX8_isCell 1 (some .boolean) sp_X8_isCell) (h_X8_bad : zMS 1 yX8_bad cX8_bad 2 (some .int) sp_X8_bad) (h_X8_mayRub : zMS 2 yX8_mayRub cX8_mayRub 2 (some .boolean) sp_X8_mayRub) (h_X8_no : zMS 1 yX8_no cX8_no 1 (some .int) sp_X8_no) (h_X8_keep : zMS 1 yX8_keep cX8_keep 2 none sp_X8_keep) (h_X8_goRub : zMS 2 yX8_goRub cX8_goRub 3 (some .int) sp_X8_goRub) : zTrue RX8 cX8_rub 2 (some .int) (d + 3) (fun kd K => tb_X8_rub kd K) := by
  intro p l e R s m args below meth c D cy A ad bl Qm K C0 hr hlocks hQ
  obtain ⟨hx, hb, hml, hown, hts, hK, hD, hA0, hN, hE, ⟨hR1, hR2⟩, hc1, hc2⟩ := id C0
  unfold tb_X8_rub
  refine List.forall_mem_cons.mpr ⟨ok_iload_n hx hb rfl dd_X8_rub_0, ?_⟩
  refine List.forall_mem_cons.mpr ⟨ok_callS (n := 1) C0 (h_X8_isCell (d + 2) (by omega)) (by decide) wd_924 wd_922 wd_923 wd_107 ⟨by decide +kernel, by decide +kernel, by decide +kernel⟩ dd_X8_rub_1, ?_⟩
  refine List.forall_mem_cons.mpr ⟨ok_if_ne hx hb dd_X8_rub_4 (by decide), ?_⟩
  refine List.forall_mem_cons.mpr ⟨ok_aload_n hx hb rfl dd_X8_rub_7, ?_⟩
  refine List.forall_mem_cons.mpr ⟨ok_bipush hx hb dd_X8_rub_8 (by decide), ?_⟩
  refine List.forall_mem_cons.mpr ⟨ok_callV (n := 1) zc_X8 rv_X8_bad C0 (h_X8_bad (d + 2) (by omega)) (by decide) wd_936 wd_933 wd_935 wd_62 wd_107 ⟨rfl, by decide +kernel, by decide +kernel, by decide +kernel⟩ dd_X8_rub_10, ?_⟩
  refine List.forall_mem_cons.mpr ⟨ok_iret hx hb hr hlocks hQ dd_X8_rub_13, ?_⟩
  refine List.forall_mem_cons.mpr ⟨ok_aload_n hx hb rfl dd_X8_rub_14, ?_⟩
  refine List.forall_mem_cons.mpr ⟨ok_getR (j := 0) hx hb hts zi_X8 hown hK zc_X8 (by decide) rfl (fun t fl h => by cases h; rfl) (hts _ wd_840) dd_X8_rub_15, ?_⟩
  refine List.forall_mem_cons.mpr ⟨ok_iload_n hx hb rfl dd_X8_rub_18, ?_⟩
  refine List.forall_mem_cons.mpr ⟨ok_callS (n := 2) C0 (h_X8_mayRub (d + 2) (by omega)) (by decide) wd_939 wd_937 wd_938 wd_107 ⟨by decide +kernel, by decide +kernel, by decide +kernel⟩ dd_X8_rub_19, ?_⟩
  refine List.forall_mem_cons.mpr ⟨ok_if_ne hx hb dd_X8_rub_22 (by decide), ?_⟩
  refine List.forall_mem_cons.mpr ⟨ok_aload_n hx hb rfl dd_X8_rub_25, ?_⟩
  refine List.forall_mem_cons.mpr ⟨ok_callV (n := 0) zc_X8 rv_X8_no C0 (h_X8_no (d + 2) (by omega)) (by decide) wd_946 wd_943 wd_945 wd_63 wd_107 ⟨rfl, by decide +kernel, by decide +kernel, by decide +kernel⟩ dd_X8_rub_26, ?_⟩
  refine List.forall_mem_cons.mpr ⟨ok_iret hx hb hr hlocks hQ dd_X8_rub_29, ?_⟩
  refine List.forall_mem_cons.mpr ⟨ok_aload_n hx hb rfl dd_X8_rub_30, ?_⟩
  refine List.forall_mem_cons.mpr ⟨ok_callV (n := 0) zc_X8 rv_X8_keep C0 (h_X8_keep (d + 2) (by omega)) (by decide) wd_954 wd_951 wd_953 wd_65 wd_107 ⟨rfl, by decide +kernel, by decide +kernel, by decide +kernel⟩ dd_X8_rub_31, ?_⟩
  refine List.forall_mem_cons.mpr ⟨ok_aload_n hx hb rfl dd_X8_rub_34, ?_⟩
  refine List.forall_mem_cons.mpr ⟨ok_getR (j := 0) hx hb hts zi_X8 hown hK zc_X8 (by decide) rfl (fun t fl h => by cases h; rfl) (hts _ wd_840) dd_X8_rub_35, ?_⟩
  refine List.forall_mem_cons.mpr ⟨ok_iload_n hx hb rfl dd_X8_rub_38, ?_⟩
  refine List.forall_mem_cons.mpr ⟨ok_callS (n := 2) C0 (h_X8_goRub (d + 2) (by omega)) (by decide) wd_964 wd_962 wd_963 wd_107 ⟨by decide +kernel, by decide +kernel, by decide +kernel⟩ dd_X8_rub_39, ?_⟩
  refine List.forall_mem_cons.mpr ⟨ok_iret hx hb hr hlocks hQ dd_X8_rub_42, ?_⟩
  exact fun _ h => absurd h List.not_mem_nil
set_option maxRecDepth 100000 in
theorem vc_X8_rub_0 {kd : Nat → Nat} {K : zK} {X : zX} (hX : ∀ (n pc : Nat) (ls : zLS) (st : List zV) (M : zM), zrun (tb_X8_rub kd K) [] n X pc ls st M → X pc ls st M) {c : Int32} {M : zM} (hk0 : kd 9 = 8) (h : ∀ v1 : Int32, (v1 = zp (isC c.toInt)) → ((¬ v1 = 0) → (1 = 1 ∨ 1 = 5 ∨ 1 = 10) ∧ ∃ a2 : Sk, (RpF (M.1 9 1) a2) ∧ (isC c.toInt) ∧ ∀ v2 : Int32, (v2 = zp (sk_canR a2 c.toInt = true)) → ((¬ v2 = 0) → ∃ r3 : Rl, (RpW (M.1 9 1) r3) ∧ ∀ f3 : Nat → Int32, (RpW f3 (r3.1, hAdd r3.2.1 r3.1, r3.2.2)) → ∀ M3 : zM, (M3 = zmw M 9 1 f3) → (1 = 1 ∨ 1 = 5 ∨ 1 = 10) ∧ ∃ a4 : Sk, (RpF (M3.1 9 1) a4) ∧ ∃ l4 : Ly, (sk_top a4 c.toInt = some l4) ∧ ∀ v4 : Int32, (v4.toInt = a4.2 - l4.2.2.2.1) → ∀ f4 : Nat → Int32, (RpF f4 (sk_rub a4 c.toInt)) → (∀ j9, 127 ≤ j9 → f4 j9 = M3.1 9 1 j9) → ∀ M4 : zM, (M4 = zmw M3 9 1 f4) → K (some (zI (v4))) M4) ∧ ((v2 = 0) → ∀ v5 : Int32, (v5.toInt = -3) → ∀ M5 : zM, (M5 = zmw M 9 4 (upd (M.1 9 4) 1 (M.1 9 4 1 + 1))) → K (some (zI (v5))) M5)) ∧ ((v1 = 0) → ∀ v6 : Int32, (v6 = (-2 : Int32)) → ∀ M6 : zM, (M6 = zmw M 9 4 (upd (M.1 9 4) 0 (M.1 9 4 0 + 1))) → K (some (zI (v6))) M6)) : X 0 [some (zR 9 0), some (zI (c))] [] M := hX 16 0 _ [] M (show ∀ v1 : Int32, (v1 = zp (isC c.toInt)) → ((¬ v1 = 0) → (kd 9 = 8) ∧ (kd 9 = 8) ∧ (1 = 1 ∨ 1 = 5 ∨ 1 = 10) ∧ ∃ a2 : Sk, (RpF (M.1 9 1) a2) ∧ (isC c.toInt) ∧ ∀ v2 : Int32, (v2 = zp (sk_canR a2 c.toInt = true)) → ((¬ v2 = 0) → (kd 9 = 8) ∧ ∃ r3 : Rl, (RpW (M.1 9 1) r3) ∧ ∀ f3 : Nat → Int32, (RpW f3 (r3.1, hAdd r3.2.1 r3.1, r3.2.2)) → ∀ M3 : zM, (M3 = zmw M 9 1 f3) → (kd 9 = 8) ∧ (kd 9 = 8) ∧ (1 = 1 ∨ 1 = 5 ∨ 1 = 10) ∧ ∃ a4 : Sk, (RpF (M3.1 9 1) a4) ∧ ∃ l4 : Ly, (sk_top a4 c.toInt = some l4) ∧ ∀ v4 : Int32, (v4.toInt = a4.2 - l4.2.2.2.1) → ∀ f4 : Nat → Int32, (RpF f4 (sk_rub a4 c.toInt)) → (∀ j9, 127 ≤ j9 → f4 j9 = M3.1 9 1 j9) → ∀ M4 : zM, (M4 = zmw M3 9 1 f4) → K (some (zI (v4))) M4) ∧ ((v2 = 0) → (kd 9 = 8) ∧ ∀ v5 : Int32, (v5.toInt = -3) → ∀ M5 : zM, (M5 = zmw M 9 4 (upd (M.1 9 4) 1 (M.1 9 4 1 + 1))) → K (some (zI (v5))) M5)) ∧ ((v1 = 0) → (kd 9 = 8) ∧ ∀ v6 : Int32, (v6 = (-2 : Int32)) → ∀ M6 : zM, (M6 = zmw M 9 4 (upd (M.1 9 4) 0 (M.1 9 4 0 + 1))) → K (some (zI (v6))) M6) from fun v1 => have h := h v1; fun q => have h := h q; ⟨fun q => have h := h.1 q; ⟨hk0, ⟨hk0, ⟨h.1, have h := h.2; h.elim (fun a2 h => ⟨a2, ⟨h.1, have h := h.2; ⟨h.1, have h := h.2; fun v2 => have h := h v2; fun q => have h := h q; ⟨fun q => have h := h.1 q; ⟨hk0, h.elim (fun r3 h => ⟨r3, ⟨h.1, have h := h.2; fun f3 => have h := h f3; fun q => have h := h q; fun M3 => have h := h M3; fun q => have h := h q; ⟨hk0, ⟨hk0, ⟨h.1, have h := h.2; h.elim (fun a4 h => ⟨a4, ⟨h.1, have h := h.2; h.elim (fun l4 h => ⟨l4, ⟨h.1, have h := h.2; fun v4 => have h := h v4; fun q => have h := h q; fun f4 => have h := h f4; fun q => have h := h q; fun q => have h := h q; fun M4 => have h := h M4; fun q => have h := h q; h⟩⟩)⟩⟩)⟩⟩⟩⟩⟩)⟩, fun q => have h := h.2 q; ⟨hk0, fun v5 => have h := h v5; fun q => have h := h q; fun M5 => have h := h M5; fun q => have h := h q; h⟩⟩⟩⟩⟩)⟩⟩⟩, fun q => have h := h.2 q; ⟨hk0, fun v6 => have h := h v6; fun q => have h := h q; fun M6 => have h := h M6; fun q => have h := h q; h⟩⟩)
def sp_X8_years : zSpec := fun kd as M K => match as with
  | [.inr (.inr (.inl (9, 0))), .inl n] => (kd 9 = 8) ∧ ∃ s : St, (RpM M s) ∧ ∀ v : Int32, (v.toInt = (ev_years s n.toInt).1) → ∀ M' : zM, (RpM M' (ev_years s n.toInt).2) → (fr0 M M') → K (some (.inl v)) M'
  | _ => False
theorem rv_X8_years : zrv sp_X8_years 8 1 := by
  intro kd as M K h
  unfold sp_X8_years at h
  split at h
  · exact ⟨_, _, rfl, h.1⟩
  · exact h.elim
theorem dd_X8_years_0 : decode cX8_years 0 = .ok (.iload_n 1, 1) := by decide +kernel
theorem dd_X8_years_1 : decode cX8_years 1 = .ok (.i2l, 1) := by decide +kernel
theorem dd_X8_years_2 : decode cX8_years 2 = .ok (.lconst 1, 1) := by decide +kernel
theorem dd_X8_years_3 : decode cX8_years 3 = .ok (.ldc2_w 103, 3) := by decide +kernel
theorem dd_X8_years_6 : decode cX8_years 6 = .ok (.invokestatic 54, 3) := by decide +kernel
theorem dd_X8_years_9 : decode cX8_years 9 = .ok (.ifCond .ne 10, 3) := by decide +kernel
theorem dd_X8_years_12 : decode cX8_years 12 = .ok (.aload_n 0, 1) := by decide +kernel
theorem dd_X8_years_13 : decode cX8_years 13 = .ok (.bipush (-2), 2) := by decide +kernel
theorem dd_X8_years_15 : decode cX8_years 15 = .ok (.invokevirtual 81, 3) := by decide +kernel
theorem dd_X8_years_18 : decode cX8_years 18 = .ok (.ireturn, 1) := by decide +kernel
theorem dd_X8_years_19 : decode cX8_years 19 = .ok (.aload_n 0, 1) := by decide +kernel
theorem dd_X8_years_20 : decode cX8_years 20 = .ok (.invokevirtual 92, 3) := by decide +kernel
theorem dd_X8_years_23 : decode cX8_years 23 = .ok (.aload_n 0, 1) := by decide +kernel
theorem dd_X8_years_24 : decode cX8_years 24 = .ok (.getfield 7, 3) := by decide +kernel
theorem dd_X8_years_27 : decode cX8_years 27 = .ok (.iload_n 1, 1) := by decide +kernel
theorem dd_X8_years_28 : decode cX8_years 28 = .ok (.invokestatic 105, 3) := by decide +kernel
theorem dd_X8_years_31 : decode cX8_years 31 = .ok (.aload_n 0, 1) := by decide +kernel
theorem dd_X8_years_32 : decode cX8_years 32 = .ok (.getfield 7, 3) := by decide +kernel
theorem dd_X8_years_35 : decode cX8_years 35 = .ok (.bipush 126, 2) := by decide +kernel
theorem dd_X8_years_37 : decode cX8_years 37 = .ok (.iaload, 1) := by decide +kernel
theorem dd_X8_years_38 : decode cX8_years 38 = .ok (.ireturn, 1) := by decide +kernel
def tb_X8_years (kd : Nat → Nat) (K : zK) : zTab := [(0, zt_iload 1 1), (1, zt_un (fun x => zL x.toInt64) 2), (2, zt_const (zL 1) 3), (3, zt_const (zL 99) 6), (6, zt_call kd sp_X8_in 3 9), (9, zt_if (fun x => ¬ x = 0) (fun x => x = 0) 19 12), (12, zt_aload 0 13), (13, zt_const (zI (-2)) 15), (15, zt_call kd sp_X8_bad 2 18), (18, zt_iret K), (19, zt_aload 0 20), (20, zt_call kd sp_X8_keep 1 23), (23, zt_aload 0 24), (24, zt_getR kd 8 0 1 27), (27, zt_iload 1 28), (28, zt_call kd sp_X8_goYears 2 31), (31, zt_aload 0 32), (32, zt_getR kd 8 0 1 35), (35, zt_const (zI 126) 37), (37, zt_ald kd 0 38), (38, zt_iret K)]
set_option maxRecDepth 20000 in
theorem tk_X8_years (d : Nat) (h_X8_in : zMS 1 yX8_in cX8_in 6 (some .boolean) sp_X8_in) (h_X8_bad : zMS 1 yX8_bad cX8_bad 2 (some .int) sp_X8_bad) (h_X8_keep : zMS 1 yX8_keep cX8_keep 2 none sp_X8_keep) (h_X8_goYears : zMS 1 yX8_goYears cX8_goYears 2 none sp_X8_goYears) : zTrue RX8 cX8_years 2 (some .int) (d + 2) (fun kd K => tb_X8_years kd K) := by
  intro p l e R s m args below meth c D cy A ad bl Qm K C0 hr hlocks hQ
  obtain ⟨hx, hb, hml, hown, hts, hK, hD, hA0, hN, hE, ⟨hR1, hR2⟩, hc1, hc2⟩ := id C0
  unfold tb_X8_years
  refine List.forall_mem_cons.mpr ⟨ok_iload_n hx hb rfl dd_X8_years_0, ?_⟩
  refine List.forall_mem_cons.mpr ⟨ok_i2l hx hb dd_X8_years_1, ?_⟩
  refine List.forall_mem_cons.mpr ⟨ok_lconst hx hb dd_X8_years_2 (by decide), ?_⟩
  refine List.forall_mem_cons.mpr ⟨ok_ldc2 hx hb hown (hts _ wd_969) dd_X8_years_3, ?_⟩
  refine List.forall_mem_cons.mpr ⟨ok_callS (n := 3) C0 (h_X8_in (d + 1) (by omega)) (by decide) wd_928 wd_926 wd_927 wd_107 ⟨by decide +kernel, by decide +kernel, by decide +kernel⟩ dd_X8_years_6, ?_⟩
  refine List.forall_mem_cons.mpr ⟨ok_if_ne hx hb dd_X8_years_9 (by decide), ?_⟩
  refine List.forall_mem_cons.mpr ⟨ok_aload_n hx hb rfl dd_X8_years_12, ?_⟩
  refine List.forall_mem_cons.mpr ⟨ok_bipush hx hb dd_X8_years_13 (by decide), ?_⟩
  refine List.forall_mem_cons.mpr ⟨ok_callV (n := 1) zc_X8 rv_X8_bad C0 (h_X8_bad (d + 1) (by omega)) (by decide) wd_936 wd_933 wd_935 wd_62 wd_107 ⟨rfl, by decide +kernel, by decide +kernel, by decide +kernel⟩ dd_X8_years_15, ?_⟩
  refine List.forall_mem_cons.mpr ⟨ok_iret hx hb hr hlocks hQ dd_X8_years_18, ?_⟩
  refine List.forall_mem_cons.mpr ⟨ok_aload_n hx hb rfl dd_X8_years_19, ?_⟩
  refine List.forall_mem_cons.mpr ⟨ok_callV (n := 0) zc_X8 rv_X8_keep C0 (h_X8_keep (d + 1) (by omega)) (by decide) wd_954 wd_951 wd_953 wd_65 wd_107 ⟨rfl, by decide +kernel, by decide +kernel, by decide +kernel⟩ dd_X8_years_20, ?_⟩
  refine List.forall_mem_cons.mpr ⟨ok_aload_n hx hb rfl dd_X8_years_23, ?_⟩
  refine List.forall_mem_cons.mpr ⟨ok_getR (j := 0) hx hb hts zi_X8 hown hK zc_X8 (by decide) rfl (fun t fl h => by cases h; rfl) (hts _ wd_840) dd_X8_years_24, ?_⟩
  refine List.forall_mem_cons.mpr ⟨ok_iload_n hx hb rfl dd_X8_years_27, ?_⟩
  refine List.forall_mem_cons.mpr ⟨ok_callS (n := 2) C0 (h_X8_goYears (d + 1) (by omega)) (by decide) wd_972 wd_970 wd_971 wd_107 ⟨by decide +kernel, by decide +kernel, by decide +kernel⟩ dd_X8_years_28, ?_⟩
  refine List.forall_mem_cons.mpr ⟨ok_aload_n hx hb rfl dd_X8_years_31, ?_⟩
  refine List.forall_mem_cons.mpr ⟨ok_getR (j := 0) hx hb hts zi_X8 hown hK zc_X8 (by decide) rfl (fun t fl h => by cases h; rfl) (hts _ wd_840) dd_X8_years_32, ?_⟩
  refine List.forall_mem_cons.mpr ⟨ok_bipush hx hb dd_X8_years_35 (by decide), ?_⟩
  refine List.forall_mem_cons.mpr ⟨ok_ald (ty := 0) rfl hx hb hK (Or.inl ⟨rfl, rfl, dd_X8_years_37⟩), ?_⟩
  refine List.forall_mem_cons.mpr ⟨ok_iret hx hb hr hlocks hQ dd_X8_years_38, ?_⟩
  exact fun _ h => absurd h List.not_mem_nil
set_option maxRecDepth 100000 in
theorem vc_X8_years_0 {kd : Nat → Nat} {K : zK} {X : zX} (hX : ∀ (n pc : Nat) (ls : zLS) (st : List zV) (M : zM), zrun (tb_X8_years kd K) [] n X pc ls st M → X pc ls st M) {n : Int32} {M : zM} (hk0 : kd 9 = 8) (h : ∀ v1 : Int32, (v1 = zp ((1 : Int64).toInt ≤ n.toInt64.toInt ∧ n.toInt64.toInt ≤ (99 : Int64).toInt)) → ((¬ v1 = 0) → ∃ r2 : Rl, (RpW (M.1 9 1) r2) ∧ ∀ f2 : Nat → Int32, (RpW f2 (r2.1, hAdd r2.2.1 r2.1, r2.2.2)) → ∀ M2 : zM, (M2 = zmw M 9 1 f2) → (1 = 1 ∨ 1 = 5 ∨ 1 = 10) ∧ ∃ a3 : Sk, (RpF (M2.1 9 1) a3) ∧ (0 ≤ n.toInt ∧ n.toInt ≤ 99) ∧ ∀ f3 : Nat → Int32, (RpF f3 (sk_yr a3 n.toInt)) → (∀ j9, 127 ≤ j9 → f3 j9 = M2.1 9 1 j9) → ∀ M3 : zM, (M3 = zmw M2 9 1 f3) → (zin (kd 9) 1 0 (126 : Int32)) ∧ K (some (zI (M3.1 9 1 ((126 : Int32)).toNatClampNeg))) M3) ∧ ((v1 = 0) → ∀ v4 : Int32, (v4 = (-2 : Int32)) → ∀ M4 : zM, (M4 = zmw M 9 4 (upd (M.1 9 4) 0 (M.1 9 4 0 + 1))) → K (some (zI (v4))) M4)) : X 0 [some (zR 9 0), some (zI (n))] [] M := hX 18 0 _ [] M (show ∀ v1 : Int32, (v1 = zp ((1 : Int64).toInt ≤ n.toInt64.toInt ∧ n.toInt64.toInt ≤ (99 : Int64).toInt)) → ((¬ v1 = 0) → (kd 9 = 8) ∧ ∃ r2 : Rl, (RpW (M.1 9 1) r2) ∧ ∀ f2 : Nat → Int32, (RpW f2 (r2.1, hAdd r2.2.1 r2.1, r2.2.2)) → ∀ M2 : zM, (M2 = zmw M 9 1 f2) → (kd 9 = 8) ∧ (kd 9 = 8) ∧ (1 = 1 ∨ 1 = 5 ∨ 1 = 10) ∧ ∃ a3 : Sk, (RpF (M2.1 9 1) a3) ∧ (0 ≤ n.toInt ∧ n.toInt ≤ 99) ∧ ∀ f3 : Nat → Int32, (RpF f3 (sk_yr a3 n.toInt)) → (∀ j9, 127 ≤ j9 → f3 j9 = M2.1 9 1 j9) → ∀ M3 : zM, (M3 = zmw M2 9 1 f3) → (kd 9 = 8) ∧ (zin (kd 9) 1 0 (126 : Int32)) ∧ K (some (zI (M3.1 9 1 ((126 : Int32)).toNatClampNeg))) M3) ∧ ((v1 = 0) → (kd 9 = 8) ∧ ∀ v4 : Int32, (v4 = (-2 : Int32)) → ∀ M4 : zM, (M4 = zmw M 9 4 (upd (M.1 9 4) 0 (M.1 9 4 0 + 1))) → K (some (zI (v4))) M4) from fun v1 => have h := h v1; fun q => have h := h q; ⟨fun q => have h := h.1 q; ⟨hk0, h.elim (fun r2 h => ⟨r2, ⟨h.1, have h := h.2; fun f2 => have h := h f2; fun q => have h := h q; fun M2 => have h := h M2; fun q => have h := h q; ⟨hk0, ⟨hk0, ⟨h.1, have h := h.2; h.elim (fun a3 h => ⟨a3, ⟨h.1, have h := h.2; ⟨h.1, have h := h.2; fun f3 => have h := h f3; fun q => have h := h q; fun q => have h := h q; fun M3 => have h := h M3; fun q => have h := h q; ⟨hk0, ⟨h.1, have h := h.2; h⟩⟩⟩⟩⟩)⟩⟩⟩⟩⟩)⟩, fun q => have h := h.2 q; ⟨hk0, fun v4 => have h := h v4; fun q => have h := h q; fun M4 => have h := h M4; fun q => have h := h q; h⟩⟩)
def sp_X8_undo : zSpec := fun kd as M K => match as with
  | [.inr (.inr (.inl (9, 0)))] => (kd 9 = 8) ∧ ∃ s : St, (RpM M s) ∧ ∀ v : Int32, (v.toInt = (ev_undo s).1) → ∀ M' : zM, (RpM M' (ev_undo s).2) → (fr0 M M') → K (some (.inl v)) M'
  | _ => False
theorem rv_X8_undo : zrv sp_X8_undo 8 0 := by
  intro kd as M K h
  unfold sp_X8_undo at h
  split at h
  · exact ⟨_, _, rfl, h.1⟩
  · exact h.elim
theorem dd_X8_undo_0 : decode cX8_undo 0 = .ok (.aload_n 0, 1) := by decide +kernel
theorem dd_X8_undo_1 : decode cX8_undo 1 = .ok (.getfield 7, 3) := by decide +kernel
theorem dd_X8_undo_4 : decode cX8_undo 4 = .ok (.sipush 128, 3) := by decide +kernel
theorem dd_X8_undo_7 : decode cX8_undo 7 = .ok (.iaload, 1) := by decide +kernel
theorem dd_X8_undo_8 : decode cX8_undo 8 = .ok (.ifCond .ne 8, 3) := by decide +kernel
theorem dd_X8_undo_11 : decode cX8_undo 11 = .ok (.aload_n 0, 1) := by decide +kernel
theorem dd_X8_undo_12 : decode cX8_undo 12 = .ok (.invokevirtual 85, 3) := by decide +kernel
theorem dd_X8_undo_15 : decode cX8_undo 15 = .ok (.ireturn, 1) := by decide +kernel
theorem dd_X8_undo_16 : decode cX8_undo 16 = .ok (.aload_n 0, 1) := by decide +kernel
theorem dd_X8_undo_17 : decode cX8_undo 17 = .ok (.getfield 7, 3) := by decide +kernel
theorem dd_X8_undo_20 : decode cX8_undo 20 = .ok (.sipush 128, 3) := by decide +kernel
theorem dd_X8_undo_23 : decode cX8_undo 23 = .ok (.dup2, 1) := by decide +kernel
theorem dd_X8_undo_24 : decode cX8_undo 24 = .ok (.iaload, 1) := by decide +kernel
theorem dd_X8_undo_25 : decode cX8_undo 25 = .ok (.iconst 1, 1) := by decide +kernel
theorem dd_X8_undo_26 : decode cX8_undo 26 = .ok (.isub, 1) := by decide +kernel
theorem dd_X8_undo_27 : decode cX8_undo 27 = .ok (.iastore, 1) := by decide +kernel
theorem dd_X8_undo_28 : decode cX8_undo 28 = .ok (.iconst 0, 1) := by decide +kernel
theorem dd_X8_undo_29 : decode cX8_undo 29 = .ok (.istore_n 1, 1) := by decide +kernel
theorem dd_X8_undo_30 : decode cX8_undo 30 = .ok (.iload_n 1, 1) := by decide +kernel
theorem dd_X8_undo_31 : decode cX8_undo 31 = .ok (.bipush 127, 2) := by decide +kernel
theorem dd_X8_undo_33 : decode cX8_undo 33 = .ok (.if_icmp .ge 37, 3) := by decide +kernel
theorem dd_X8_undo_36 : decode cX8_undo 36 = .ok (.aload_n 0, 1) := by decide +kernel
theorem dd_X8_undo_37 : decode cX8_undo 37 = .ok (.getfield 7, 3) := by decide +kernel
theorem dd_X8_undo_40 : decode cX8_undo 40 = .ok (.iload_n 1, 1) := by decide +kernel
theorem dd_X8_undo_41 : decode cX8_undo 41 = .ok (.aload_n 0, 1) := by decide +kernel
theorem dd_X8_undo_42 : decode cX8_undo 42 = .ok (.getfield 7, 3) := by decide +kernel
theorem dd_X8_undo_45 : decode cX8_undo 45 = .ok (.sipush 153, 3) := by decide +kernel
theorem dd_X8_undo_48 : decode cX8_undo 48 = .ok (.bipush 127, 2) := by decide +kernel
theorem dd_X8_undo_50 : decode cX8_undo 50 = .ok (.aload_n 0, 1) := by decide +kernel
theorem dd_X8_undo_51 : decode cX8_undo 51 = .ok (.getfield 7, 3) := by decide +kernel
theorem dd_X8_undo_54 : decode cX8_undo 54 = .ok (.sipush 128, 3) := by decide +kernel
theorem dd_X8_undo_57 : decode cX8_undo 57 = .ok (.iaload, 1) := by decide +kernel
theorem dd_X8_undo_58 : decode cX8_undo 58 = .ok (.imul, 1) := by decide +kernel
theorem dd_X8_undo_59 : decode cX8_undo 59 = .ok (.iadd, 1) := by decide +kernel
theorem dd_X8_undo_60 : decode cX8_undo 60 = .ok (.iload_n 1, 1) := by decide +kernel
theorem dd_X8_undo_61 : decode cX8_undo 61 = .ok (.iadd, 1) := by decide +kernel
theorem dd_X8_undo_62 : decode cX8_undo 62 = .ok (.iaload, 1) := by decide +kernel
theorem dd_X8_undo_63 : decode cX8_undo 63 = .ok (.iastore, 1) := by decide +kernel
theorem dd_X8_undo_64 : decode cX8_undo 64 = .ok (.iinc 1 1, 3) := by decide +kernel
theorem dd_X8_undo_67 : decode cX8_undo 67 = .ok (.goto (-37), 3) := by decide +kernel
theorem dd_X8_undo_70 : decode cX8_undo 70 = .ok (.aload_n 0, 1) := by decide +kernel
theorem dd_X8_undo_71 : decode cX8_undo 71 = .ok (.getfield 7, 3) := by decide +kernel
theorem dd_X8_undo_74 : decode cX8_undo 74 = .ok (.bipush 126, 2) := by decide +kernel
theorem dd_X8_undo_76 : decode cX8_undo 76 = .ok (.iaload, 1) := by decide +kernel
theorem dd_X8_undo_77 : decode cX8_undo 77 = .ok (.ireturn, 1) := by decide +kernel
def tb_X8_undo (kd : Nat → Nat) (K : zK) : zTab := [(0, zt_aload 0 1), (1, zt_getR kd 8 0 1 4), (4, zt_const (zI 128) 7), (7, zt_ald kd 0 8), (8, zt_if (fun x => ¬ x = 0) (fun x => x = 0) 16 11), (11, zt_aload 0 12), (12, zt_call kd sp_X8_no 1 15), (15, zt_iret K), (16, zt_aload 0 17), (17, zt_getR kd 8 0 1 20), (20, zt_const (zI 128) 23), (23, zt_dup2 24), (24, zt_ald kd 0 25), (25, zt_const (zI 1) 26), (26, zt_bin (fun x y => x - y) 27), (27, zt_ast kd 0 28), (28, zt_const (zI 0) 29), (29, zt_istore 1 30), (30, zt_iload 1 31), (31, zt_const (zI 127) 33), (33, zt_icmp (fun x y => y ≤ x) (fun x y => ¬ y ≤ x) 70 36), (36, zt_aload 0 37), (37, zt_getR kd 8 0 1 40), (40, zt_iload 1 41), (41, zt_aload 0 42), (42, zt_getR kd 8 0 1 45), (45, zt_const (zI 153) 48), (48, zt_const (zI 127) 50), (50, zt_aload 0 51), (51, zt_getR kd 8 0 1 54), (54, zt_const (zI 128) 57), (57, zt_ald kd 0 58), (58, zt_bin (fun x y => x * y) 59), (59, zt_bin (fun x y => x + y) 60), (60, zt_iload 1 61), (61, zt_bin (fun x y => x + y) 62), (62, zt_ald kd 0 63), (63, zt_ast kd 0 64), (64, zt_iinc 1 1 67), (67, zt_goto 30), (70, zt_aload 0 71), (71, zt_getR kd 8 0 1 74), (74, zt_const (zI 126) 76), (76, zt_ald kd 0 77), (77, zt_iret K)]
set_option maxRecDepth 20000 in
theorem tk_X8_undo (d : Nat) (h_X8_no : zMS 1 yX8_no cX8_no 1 (some .int) sp_X8_no) : zTrue RX8 cX8_undo 2 (some .int) (d + 2) (fun kd K => tb_X8_undo kd K) := by
  intro p l e R s m args below meth c D cy A ad bl Qm K C0 hr hlocks hQ
  obtain ⟨hx, hb, hml, hown, hts, hK, hD, hA0, hN, hE, ⟨hR1, hR2⟩, hc1, hc2⟩ := id C0
  unfold tb_X8_undo
  refine List.forall_mem_cons.mpr ⟨ok_aload_n hx hb rfl dd_X8_undo_0, ?_⟩
  refine List.forall_mem_cons.mpr ⟨ok_getR (j := 0) hx hb hts zi_X8 hown hK zc_X8 (by decide) rfl (fun t fl h => by cases h; rfl) (hts _ wd_840) dd_X8_undo_1, ?_⟩
  refine List.forall_mem_cons.mpr ⟨ok_sipush hx hb dd_X8_undo_4 (by decide), ?_⟩
  refine List.forall_mem_cons.mpr ⟨ok_ald (ty := 0) rfl hx hb hK (Or.inl ⟨rfl, rfl, dd_X8_undo_7⟩), ?_⟩
  refine List.forall_mem_cons.mpr ⟨ok_if_ne hx hb dd_X8_undo_8 (by decide), ?_⟩
  refine List.forall_mem_cons.mpr ⟨ok_aload_n hx hb rfl dd_X8_undo_11, ?_⟩
  refine List.forall_mem_cons.mpr ⟨ok_callV (n := 0) zc_X8 rv_X8_no C0 (h_X8_no (d + 1) (by omega)) (by decide) wd_946 wd_943 wd_945 wd_63 wd_107 ⟨rfl, by decide +kernel, by decide +kernel, by decide +kernel⟩ dd_X8_undo_12, ?_⟩
  refine List.forall_mem_cons.mpr ⟨ok_iret hx hb hr hlocks hQ dd_X8_undo_15, ?_⟩
  refine List.forall_mem_cons.mpr ⟨ok_aload_n hx hb rfl dd_X8_undo_16, ?_⟩
  refine List.forall_mem_cons.mpr ⟨ok_getR (j := 0) hx hb hts zi_X8 hown hK zc_X8 (by decide) rfl (fun t fl h => by cases h; rfl) (hts _ wd_840) dd_X8_undo_17, ?_⟩
  refine List.forall_mem_cons.mpr ⟨ok_sipush hx hb dd_X8_undo_20 (by decide), ?_⟩
  refine List.forall_mem_cons.mpr ⟨ok_dup2 hx hb dd_X8_undo_23, ?_⟩
  refine List.forall_mem_cons.mpr ⟨ok_ald (ty := 0) rfl hx hb hK (Or.inl ⟨rfl, rfl, dd_X8_undo_24⟩), ?_⟩
  refine List.forall_mem_cons.mpr ⟨ok_iconst hx hb dd_X8_undo_25 (by decide), ?_⟩
  refine List.forall_mem_cons.mpr ⟨ok_isub hx hb dd_X8_undo_26, ?_⟩
  refine List.forall_mem_cons.mpr ⟨ok_ast (ty := 0) rfl hx hb hK hD (Or.inl ⟨rfl, rfl, dd_X8_undo_27⟩), ?_⟩
  refine List.forall_mem_cons.mpr ⟨ok_iconst hx hb dd_X8_undo_28 (by decide), ?_⟩
  refine List.forall_mem_cons.mpr ⟨ok_istore_n hx hb rfl dd_X8_undo_29, ?_⟩
  refine List.forall_mem_cons.mpr ⟨ok_iload_n hx hb rfl dd_X8_undo_30, ?_⟩
  refine List.forall_mem_cons.mpr ⟨ok_bipush hx hb dd_X8_undo_31 (by decide), ?_⟩
  refine List.forall_mem_cons.mpr ⟨ok_icmp_ge hx hb dd_X8_undo_33 (by decide), ?_⟩
  refine List.forall_mem_cons.mpr ⟨ok_aload_n hx hb rfl dd_X8_undo_36, ?_⟩
  refine List.forall_mem_cons.mpr ⟨ok_getR (j := 0) hx hb hts zi_X8 hown hK zc_X8 (by decide) rfl (fun t fl h => by cases h; rfl) (hts _ wd_840) dd_X8_undo_37, ?_⟩
  refine List.forall_mem_cons.mpr ⟨ok_iload_n hx hb rfl dd_X8_undo_40, ?_⟩
  refine List.forall_mem_cons.mpr ⟨ok_aload_n hx hb rfl dd_X8_undo_41, ?_⟩
  refine List.forall_mem_cons.mpr ⟨ok_getR (j := 0) hx hb hts zi_X8 hown hK zc_X8 (by decide) rfl (fun t fl h => by cases h; rfl) (hts _ wd_840) dd_X8_undo_42, ?_⟩
  refine List.forall_mem_cons.mpr ⟨ok_sipush hx hb dd_X8_undo_45 (by decide), ?_⟩
  refine List.forall_mem_cons.mpr ⟨ok_bipush hx hb dd_X8_undo_48 (by decide), ?_⟩
  refine List.forall_mem_cons.mpr ⟨ok_aload_n hx hb rfl dd_X8_undo_50, ?_⟩
  refine List.forall_mem_cons.mpr ⟨ok_getR (j := 0) hx hb hts zi_X8 hown hK zc_X8 (by decide) rfl (fun t fl h => by cases h; rfl) (hts _ wd_840) dd_X8_undo_51, ?_⟩
  refine List.forall_mem_cons.mpr ⟨ok_sipush hx hb dd_X8_undo_54 (by decide), ?_⟩
  refine List.forall_mem_cons.mpr ⟨ok_ald (ty := 0) rfl hx hb hK (Or.inl ⟨rfl, rfl, dd_X8_undo_57⟩), ?_⟩
  refine List.forall_mem_cons.mpr ⟨ok_imul hx hb dd_X8_undo_58, ?_⟩
  refine List.forall_mem_cons.mpr ⟨ok_iadd hx hb dd_X8_undo_59, ?_⟩
  refine List.forall_mem_cons.mpr ⟨ok_iload_n hx hb rfl dd_X8_undo_60, ?_⟩
  refine List.forall_mem_cons.mpr ⟨ok_iadd hx hb dd_X8_undo_61, ?_⟩
  refine List.forall_mem_cons.mpr ⟨ok_ald (ty := 0) rfl hx hb hK (Or.inl ⟨rfl, rfl, dd_X8_undo_62⟩), ?_⟩
  refine List.forall_mem_cons.mpr ⟨ok_ast (ty := 0) rfl hx hb hK hD (Or.inl ⟨rfl, rfl, dd_X8_undo_63⟩), ?_⟩
  refine List.forall_mem_cons.mpr ⟨ok_iinc hx hb dd_X8_undo_64 (by decide), ?_⟩
  refine List.forall_mem_cons.mpr ⟨ok_goto hx hb dd_X8_undo_67 (by decide), ?_⟩
  refine List.forall_mem_cons.mpr ⟨ok_aload_n hx hb rfl dd_X8_undo_70, ?_⟩
  refine List.forall_mem_cons.mpr ⟨ok_getR (j := 0) hx hb hts zi_X8 hown hK zc_X8 (by decide) rfl (fun t fl h => by cases h; rfl) (hts _ wd_840) dd_X8_undo_71, ?_⟩
  refine List.forall_mem_cons.mpr ⟨ok_bipush hx hb dd_X8_undo_74 (by decide), ?_⟩
  refine List.forall_mem_cons.mpr ⟨ok_ald (ty := 0) rfl hx hb hK (Or.inl ⟨rfl, rfl, dd_X8_undo_76⟩), ?_⟩
  refine List.forall_mem_cons.mpr ⟨ok_iret hx hb hr hlocks hQ dd_X8_undo_77, ?_⟩
  exact fun _ h => absurd h List.not_mem_nil
set_option maxRecDepth 100000 in
theorem vc_X8_undo_0 {kd : Nat → Nat} {K : zK} {X : zX} (hX : ∀ (n pc : Nat) (ls : zLS) (st : List zV) (M : zM), zrun (tb_X8_undo kd K) [(30, [])] n X pc ls st M → X pc ls st M)  {M : zM} (hk0 : kd 9 = 8) (h : (zin (kd 9) 1 0 (128 : Int32)) ∧ ((¬ (M.1 9 1 ((128 : Int32)).toNatClampNeg) = 0) → (zin (kd 9) 1 0 (128 : Int32)) ∧ (zin (kd 9) 1 0 (128 : Int32)) ∧ ∀ M1 : zM, (M1 = zmw M 9 1 (upd (M.1 9 1) ((128 : Int32)).toNatClampNeg ((M.1 9 1 ((128 : Int32)).toNatClampNeg) - (1 : Int32)))) → X 30 [some (zR 9 0), some (zI ((0 : Int32)))] [] M1) ∧ (((M.1 9 1 ((128 : Int32)).toNatClampNeg) = 0) → ∀ v2 : Int32, (v2.toInt = -3) → ∀ M2 : zM, (M2 = zmw M 9 4 (upd (M.1 9 4) 1 (M.1 9 4 1 + 1))) → K (some (zI (v2))) M2)) : X 0 [some (zR 9 0), none] [] M := hX 17 0 _ [] M (show (kd 9 = 8) ∧ (zin (kd 9) 1 0 (128 : Int32)) ∧ ((¬ (M.1 9 1 ((128 : Int32)).toNatClampNeg) = 0) → (kd 9 = 8) ∧ (zin (kd 9) 1 0 (128 : Int32)) ∧ (zin (kd 9) 1 0 (128 : Int32)) ∧ ∀ M1 : zM, (M1 = zmw M 9 1 (upd (M.1 9 1) ((128 : Int32)).toNatClampNeg ((M.1 9 1 ((128 : Int32)).toNatClampNeg) - (1 : Int32)))) → X 30 [some (zR 9 0), some (zI ((0 : Int32)))] [] M1) ∧ (((M.1 9 1 ((128 : Int32)).toNatClampNeg) = 0) → (kd 9 = 8) ∧ ∀ v2 : Int32, (v2.toInt = -3) → ∀ M2 : zM, (M2 = zmw M 9 4 (upd (M.1 9 4) 1 (M.1 9 4 1 + 1))) → K (some (zI (v2))) M2) from ⟨hk0, ⟨h.1, have h := h.2; ⟨fun q => have h := h.1 q; ⟨hk0, ⟨h.1, have h := h.2; ⟨h.1, have h := h.2; fun M1 => have h := h M1; fun q => have h := h q; h⟩⟩⟩, fun q => have h := h.2 q; ⟨hk0, fun v2 => have h := h v2; fun q => have h := h q; fun M2 => have h := h M2; fun q => have h := h q; h⟩⟩⟩⟩)
set_option maxRecDepth 100000 in
theorem vc_X8_undo_30 {kd : Nat → Nat} {K : zK} {X : zX} (hX : ∀ (n pc : Nat) (ls : zLS) (st : List zV) (M : zM), zrun (tb_X8_undo kd K) [(30, [])] n X pc ls st M → X pc ls st M) {k : Int32} {M : zM} (hk0 : kd 9 = 8) (h : (((127 : Int32) ≤ k) → (zin (kd 9) 1 0 (126 : Int32)) ∧ K (some (zI (M.1 9 1 ((126 : Int32)).toNatClampNeg))) M) ∧ ((¬ (127 : Int32) ≤ k) → (zin (kd 9) 1 0 (128 : Int32)) ∧ (zin (kd 9) 1 0 (((153 : Int32) + ((127 : Int32) * (M.1 9 1 ((128 : Int32)).toNatClampNeg))) + k)) ∧ (zin (kd 9) 1 0 k) ∧ ∀ M1 : zM, (M1 = zmw M 9 1 (upd (M.1 9 1) (k).toNatClampNeg (M.1 9 1 (((153 : Int32) + ((127 : Int32) * (M.1 9 1 ((128 : Int32)).toNatClampNeg))) + k).toNatClampNeg))) → X 30 [some (zR 9 0), some (zI (k + 1))] [] M1)) : X 30 [some (zR 9 0), some (zI (k))] [] M := hX 24 30 _ [] M (show (((127 : Int32) ≤ k) → (kd 9 = 8) ∧ (zin (kd 9) 1 0 (126 : Int32)) ∧ K (some (zI (M.1 9 1 ((126 : Int32)).toNatClampNeg))) M) ∧ ((¬ (127 : Int32) ≤ k) → (kd 9 = 8) ∧ (kd 9 = 8) ∧ (kd 9 = 8) ∧ (zin (kd 9) 1 0 (128 : Int32)) ∧ (zin (kd 9) 1 0 (((153 : Int32) + ((127 : Int32) * (M.1 9 1 ((128 : Int32)).toNatClampNeg))) + k)) ∧ (zin (kd 9) 1 0 k) ∧ ∀ M1 : zM, (M1 = zmw M 9 1 (upd (M.1 9 1) (k).toNatClampNeg (M.1 9 1 (((153 : Int32) + ((127 : Int32) * (M.1 9 1 ((128 : Int32)).toNatClampNeg))) + k).toNatClampNeg))) → X 30 [some (zR 9 0), some (zI (k + 1))] [] M1) from ⟨fun q => have h := h.1 q; ⟨hk0, ⟨h.1, have h := h.2; h⟩⟩, fun q => have h := h.2 q; ⟨hk0, ⟨hk0, ⟨hk0, ⟨h.1, have h := h.2; ⟨h.1, have h := h.2; ⟨h.1, have h := h.2; fun M1 => have h := h M1; fun q => have h := h q; h⟩⟩⟩⟩⟩⟩⟩)
