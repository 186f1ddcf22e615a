def sp_X8_manyBind : zSpec := fun kd as M K => match as with
  | [.inr (.inr (.inl (9, 0)))] => (kd 9 = 8) ∧ ∃ a : Sk, (RpF (M.1 9 5) a) ∧ (M.1 9 1 126 = M.1 9 5 126) ∧ ∀ v : Int32, (v.toInt = sk_bi a a.2) → K (some (.inl v)) M
  | _ => False
theorem rv_X8_manyBind : zrv sp_X8_manyBind 8 0 := by
  intro kd as M K h
  unfold sp_X8_manyBind at h
  split at h
  · exact ⟨_, _, rfl, h.1⟩
  · exact h.elim
theorem dd_X8_manyBind_0 : decode cX8_manyBind 0 = .ok (.iconst 0, 1) := by decide +kernel
theorem dd_X8_manyBind_1 : decode cX8_manyBind 1 = .ok (.istore_n 1, 1) := by decide +kernel
theorem dd_X8_manyBind_2 : decode cX8_manyBind 2 = .ok (.iconst 0, 1) := by decide +kernel
theorem dd_X8_manyBind_3 : decode cX8_manyBind 3 = .ok (.istore_n 2, 1) := by decide +kernel
theorem dd_X8_manyBind_4 : decode cX8_manyBind 4 = .ok (.iload_n 2, 1) := by decide +kernel
theorem dd_X8_manyBind_5 : decode cX8_manyBind 5 = .ok (.bipush 6, 2) := by decide +kernel
theorem dd_X8_manyBind_7 : decode cX8_manyBind 7 = .ok (.if_icmp .ge 53, 3) := by decide +kernel
theorem dd_X8_manyBind_10 : decode cX8_manyBind 10 = .ok (.iconst 0, 1) := by decide +kernel
theorem dd_X8_manyBind_11 : decode cX8_manyBind 11 = .ok (.istore_n 3, 1) := by decide +kernel
theorem dd_X8_manyBind_12 : decode cX8_manyBind 12 = .ok (.iload_n 3, 1) := by decide +kernel
theorem dd_X8_manyBind_13 : decode cX8_manyBind 13 = .ok (.aload_n 0, 1) := by decide +kernel
theorem dd_X8_manyBind_14 : decode cX8_manyBind 14 = .ok (.getfield 27, 3) := by decide +kernel
theorem dd_X8_manyBind_17 : decode cX8_manyBind 17 = .ok (.iconst 0, 1) := by decide +kernel
theorem dd_X8_manyBind_18 : decode cX8_manyBind 18 = .ok (.iload_n 2, 1) := by decide +kernel
theorem dd_X8_manyBind_19 : decode cX8_manyBind 19 = .ok (.iadd, 1) := by decide +kernel
theorem dd_X8_manyBind_20 : decode cX8_manyBind 20 = .ok (.iaload, 1) := by decide +kernel
theorem dd_X8_manyBind_21 : decode cX8_manyBind 21 = .ok (.if_icmp .ge 33, 3) := by decide +kernel
theorem dd_X8_manyBind_24 : decode cX8_manyBind 24 = .ok (.iload_n 1, 1) := by decide +kernel
theorem dd_X8_manyBind_25 : decode cX8_manyBind 25 = .ok (.aload_n 0, 1) := by decide +kernel
theorem dd_X8_manyBind_26 : decode cX8_manyBind 26 = .ok (.iload_n 2, 1) := by decide +kernel
theorem dd_X8_manyBind_27 : decode cX8_manyBind 27 = .ok (.iload_n 3, 1) := by decide +kernel
theorem dd_X8_manyBind_28 : decode cX8_manyBind 28 = .ok (.aload_n 0, 1) := by decide +kernel
theorem dd_X8_manyBind_29 : decode cX8_manyBind 29 = .ok (.getfield 7, 3) := by decide +kernel
theorem dd_X8_manyBind_32 : decode cX8_manyBind 32 = .ok (.bipush 126, 2) := by decide +kernel
theorem dd_X8_manyBind_34 : decode cX8_manyBind 34 = .ok (.iaload, 1) := by decide +kernel
theorem dd_X8_manyBind_35 : decode cX8_manyBind 35 = .ok (.invokevirtual 130, 3) := by decide +kernel
theorem dd_X8_manyBind_38 : decode cX8_manyBind 38 = .ok (.ifCond .eq 7, 3) := by decide +kernel
theorem dd_X8_manyBind_41 : decode cX8_manyBind 41 = .ok (.iconst 1, 1) := by decide +kernel
theorem dd_X8_manyBind_42 : decode cX8_manyBind 42 = .ok (.goto 4, 3) := by decide +kernel
theorem dd_X8_manyBind_45 : decode cX8_manyBind 45 = .ok (.iconst 0, 1) := by decide +kernel
theorem dd_X8_manyBind_46 : decode cX8_manyBind 46 = .ok (.iadd, 1) := by decide +kernel
theorem dd_X8_manyBind_47 : decode cX8_manyBind 47 = .ok (.istore_n 1, 1) := by decide +kernel
theorem dd_X8_manyBind_48 : decode cX8_manyBind 48 = .ok (.iinc 3 1, 3) := by decide +kernel
theorem dd_X8_manyBind_51 : decode cX8_manyBind 51 = .ok (.goto (-39), 3) := by decide +kernel
theorem dd_X8_manyBind_54 : decode cX8_manyBind 54 = .ok (.iinc 2 1, 3) := by decide +kernel
theorem dd_X8_manyBind_57 : decode cX8_manyBind 57 = .ok (.goto (-53), 3) := by decide +kernel
theorem dd_X8_manyBind_60 : decode cX8_manyBind 60 = .ok (.iload_n 1, 1) := by decide +kernel
theorem dd_X8_manyBind_61 : decode cX8_manyBind 61 = .ok (.ireturn, 1) := by decide +kernel
def tb_X8_manyBind (kd : Nat → Nat) (K : zK) : zTab := [(0, zt_const (zI 0) 1), (1, zt_istore 1 2), (2, zt_const (zI 0) 3), (3, zt_istore 2 4), (4, zt_iload 2 5), (5, zt_const (zI 6) 7), (7, zt_icmp (fun x y => y ≤ x) (fun x y => ¬ y ≤ x) 60 10), (10, zt_const (zI 0) 11), (11, zt_istore 3 12), (12, zt_iload 3 13), (13, zt_aload 0 14), (14, zt_getR kd 8 0 5 17), (17, zt_const (zI 0) 18), (18, zt_iload 2 19), (19, zt_bin (fun x y => x + y) 20), (20, zt_ald kd 0 21), (21, zt_icmp (fun x y => y ≤ x) (fun x y => ¬ y ≤ x) 54 24), (24, zt_iload 1 25), (25, zt_aload 0 26), (26, zt_iload 2 27), (27, zt_iload 3 28), (28, zt_aload 0 29), (29, zt_getR kd 8 0 1 32), (32, zt_const (zI 126) 34), (34, zt_ald kd 0 35), (35, zt_call kd sp_X8_bindsNow 4 38), (38, zt_if (fun x => x = 0) (fun x => ¬ x = 0) 45 41), (41, zt_const (zI 1) 42), (42, zt_goto 46), (45, zt_const (zI 0) 46), (46, zt_bin (fun x y => x + y) 47), (47, zt_istore 1 48), (48, zt_iinc 3 1 51), (51, zt_goto 12), (54, zt_iinc 2 1 57), (57, zt_goto 4), (60, zt_iload 1 61), (61, zt_iret K)]
set_option maxRecDepth 20000 in
theorem tk_X8_manyBind (d : Nat) (h_X8_bindsNow : zMS 5 yX8_bindsNow cX8_bindsNow 4 (some .boolean) sp_X8_bindsNow) : zTrue RX8 cX8_manyBind 4 (some .int) (d + 6) (fun kd K => tb_X8_manyBind kd K) := by
  intro p l e R s m args below meth c D cy A ad bl Qm K C0 hr hlocks hQ
  obtain ⟨hx, hb, hml, hown, hts, hK, hD, hA0, hN, hE, ⟨hR1, hR2⟩, hc1, hc2⟩ := id C0
  unfold tb_X8_manyBind
  refine List.forall_mem_cons.mpr ⟨ok_iconst hx hb dd_X8_manyBind_0 (by decide), ?_⟩
  refine List.forall_mem_cons.mpr ⟨ok_istore_n hx hb rfl dd_X8_manyBind_1, ?_⟩
  refine List.forall_mem_cons.mpr ⟨ok_iconst hx hb dd_X8_manyBind_2 (by decide), ?_⟩
  refine List.forall_mem_cons.mpr ⟨ok_istore_n hx hb rfl dd_X8_manyBind_3, ?_⟩
  refine List.forall_mem_cons.mpr ⟨ok_iload_n hx hb rfl dd_X8_manyBind_4, ?_⟩
  refine List.forall_mem_cons.mpr ⟨ok_bipush hx hb dd_X8_manyBind_5 (by decide), ?_⟩
  refine List.forall_mem_cons.mpr ⟨ok_icmp_ge hx hb dd_X8_manyBind_7 (by decide), ?_⟩
  refine List.forall_mem_cons.mpr ⟨ok_iconst hx hb dd_X8_manyBind_10 (by decide), ?_⟩
  refine List.forall_mem_cons.mpr ⟨ok_istore_n hx hb rfl dd_X8_manyBind_11, ?_⟩
  refine List.forall_mem_cons.mpr ⟨ok_iload_n hx hb rfl dd_X8_manyBind_12, ?_⟩
  refine List.forall_mem_cons.mpr ⟨ok_aload_n hx hb rfl dd_X8_manyBind_13, ?_⟩
  refine List.forall_mem_cons.mpr ⟨ok_getR (j := 6) hx hb hts zi_X8 hown hK zc_X8 (by decide) rfl (fun t fl h => by cases h; rfl) (hts _ wd_846) dd_X8_manyBind_14, ?_⟩
  refine List.forall_mem_cons.mpr ⟨ok_iconst hx hb dd_X8_manyBind_17 (by decide), ?_⟩
  refine List.forall_mem_cons.mpr ⟨ok_iload_n hx hb rfl dd_X8_manyBind_18, ?_⟩
  refine List.forall_mem_cons.mpr ⟨ok_iadd hx hb dd_X8_manyBind_19, ?_⟩
  refine List.forall_mem_cons.mpr ⟨ok_ald (ty := 0) rfl hx hb hK (Or.inl ⟨rfl, rfl, dd_X8_manyBind_20⟩), ?_⟩
  refine List.forall_mem_cons.mpr ⟨ok_icmp_ge hx hb dd_X8_manyBind_21 (by decide), ?_⟩
  refine List.forall_mem_cons.mpr ⟨ok_iload_n hx hb rfl dd_X8_manyBind_24, ?_⟩
  refine List.forall_mem_cons.mpr ⟨ok_aload_n hx hb rfl dd_X8_manyBind_25, ?_⟩
  refine List.forall_mem_cons.mpr ⟨ok_iload_n hx hb rfl dd_X8_manyBind_26, ?_⟩
  refine List.forall_mem_cons.mpr ⟨ok_iload_n hx hb rfl dd_X8_manyBind_27, ?_⟩
  refine List.forall_mem_cons.mpr ⟨ok_aload_n hx hb rfl dd_X8_manyBind_28, ?_⟩
  refine List.forall_mem_cons.mpr ⟨ok_getR (j := 0) hx hb hts zi_X8 hown hK zc_X8 (by decide) rfl (fun t fl h => by cases h; rfl) (hts _ wd_840) dd_X8_manyBind_29, ?_⟩
  refine List.forall_mem_cons.mpr ⟨ok_bipush hx hb dd_X8_manyBind_32 (by decide), ?_⟩
  refine List.forall_mem_cons.mpr ⟨ok_ald (ty := 0) rfl hx hb hK (Or.inl ⟨rfl, rfl, dd_X8_manyBind_34⟩), ?_⟩
  refine List.forall_mem_cons.mpr ⟨ok_callV (n := 3) zc_X8 rv_X8_bindsNow C0 (h_X8_bindsNow (d + 5) (by omega)) (by decide) wd_1004 wd_1001 wd_1003 wd_68 wd_107 ⟨rfl, by decide +kernel, by decide +kernel, by decide +kernel⟩ dd_X8_manyBind_35, ?_⟩
  refine List.forall_mem_cons.mpr ⟨ok_if_eq hx hb dd_X8_manyBind_38 (by decide), ?_⟩
  refine List.forall_mem_cons.mpr ⟨ok_iconst hx hb dd_X8_manyBind_41 (by decide), ?_⟩
  refine List.forall_mem_cons.mpr ⟨ok_goto hx hb dd_X8_manyBind_42 (by decide), ?_⟩
  refine List.forall_mem_cons.mpr ⟨ok_iconst hx hb dd_X8_manyBind_45 (by decide), ?_⟩
  refine List.forall_mem_cons.mpr ⟨ok_iadd hx hb dd_X8_manyBind_46, ?_⟩
  refine List.forall_mem_cons.mpr ⟨ok_istore_n hx hb rfl dd_X8_manyBind_47, ?_⟩
  refine List.forall_mem_cons.mpr ⟨ok_iinc hx hb dd_X8_manyBind_48 (by decide), ?_⟩
  refine List.forall_mem_cons.mpr ⟨ok_goto hx hb dd_X8_manyBind_51 (by decide), ?_⟩
  refine List.forall_mem_cons.mpr ⟨ok_iinc hx hb dd_X8_manyBind_54 (by decide), ?_⟩
  refine List.forall_mem_cons.mpr ⟨ok_goto hx hb dd_X8_manyBind_57 (by decide), ?_⟩
  refine List.forall_mem_cons.mpr ⟨ok_iload_n hx hb rfl dd_X8_manyBind_60, ?_⟩
  refine List.forall_mem_cons.mpr ⟨ok_iret hx hb hr hlocks hQ dd_X8_manyBind_61, ?_⟩
  exact fun _ h => absurd h List.not_mem_nil
set_option maxRecDepth 100000 in
theorem vc_X8_manyBind_0 {kd : Nat → Nat} {K : zK} {X : zX} (hX : ∀ (n pc : Nat) (ls : zLS) (st : List zV) (M : zM), zrun (tb_X8_manyBind kd K) [(4, [3]), (12, [])] n X pc ls st M → X pc ls st M)  {M : zM}  (h : X 4 [some (zR 9 0), some (zI ((0 : Int32))), some (zI ((0 : Int32))), none] [] M) : X 0 [some (zR 9 0), none, none, none] [] M := hX 6 0 _ [] M (show X 4 [some (zR 9 0), some (zI ((0 : Int32))), some (zI ((0 : Int32))), none] [] M from h)
set_option maxRecDepth 100000 in
theorem vc_X8_manyBind_4 {kd : Nat → Nat} {K : zK} {X : zX} (hX : ∀ (n pc : Nat) (ls : zLS) (st : List zV) (M : zM), zrun (tb_X8_manyBind kd K) [(4, [3]), (12, [])] n X pc ls st M → X pc ls st M) {n : Int32} {c : Int32} {M : zM}  (h : (((6 : Int32) ≤ c) → K (some (zI (n))) M) ∧ ((¬ (6 : Int32) ≤ c) → X 12 [some (zR 9 0), some (zI (n)), some (zI (c)), some (zI ((0 : Int32)))] [] M)) : X 4 [some (zR 9 0), some (zI (n)), some (zI (c)), none] [] M := hX 7 4 _ [] M (show (((6 : Int32) ≤ c) → K (some (zI (n))) M) ∧ ((¬ (6 : Int32) ≤ c) → X 12 [some (zR 9 0), some (zI (n)), some (zI (c)), some (zI ((0 : Int32)))] [] M) from ⟨fun q => have h := h.1 q; h, fun q => have h := h.2 q; h⟩)
set_option maxRecDepth 100000 in
theorem vc_X8_manyBind_12 {kd : Nat → Nat} {K : zK} {X : zX} (hX : ∀ (n pc : Nat) (ls : zLS) (st : List zV) (M : zM), zrun (tb_X8_manyBind kd K) [(4, [3]), (12, [])] n X pc ls st M → X pc ls st M) {n : Int32} {c : Int32} {i : Int32} {M : zM} (hk0 : kd 9 = 8) (h : (zin (kd 9) 5 0 ((0 : Int32) + c)) ∧ (((M.1 9 5 ((0 : Int32) + c).toNatClampNeg) ≤ i) → X 4 [some (zR 9 0), some (zI (n)), some (zI (c + 1)), none] [] M) ∧ ((¬ (M.1 9 5 ((0 : Int32) + c).toNatClampNeg) ≤ i) → (zin (kd 9) 1 0 (126 : Int32)) ∧ ∃ a1 : Sk, (RpF (M.1 9 5) a1) ∧ (¬ sk_at a1 c.toInt i.toInt = none) ∧ (0 ≤ (M.1 9 1 ((126 : Int32)).toNatClampNeg).toInt ∧ (M.1 9 1 ((126 : Int32)).toNatClampNeg).toInt < 1000000) ∧ ∀ v1 : Int32, (v1 = zp (sk_bd a1 c.toInt i.toInt (M.1 9 1 ((126 : Int32)).toNatClampNeg).toInt = true)) → ((v1 = 0) → X 12 [some (zR 9 0), some (zI (n + (0 : Int32))), some (zI (c)), some (zI (i + 1))] [] M) ∧ ((¬ v1 = 0) → X 12 [some (zR 9 0), some (zI (n + (1 : Int32))), some (zI (c)), some (zI (i + 1))] [] M))) : X 12 [some (zR 9 0), some (zI (n)), some (zI (c)), some (zI (i))] [] M := hX 26 12 _ [] M (show (kd 9 = 8) ∧ (zin (kd 9) 5 0 ((0 : Int32) + c)) ∧ (((M.1 9 5 ((0 : Int32) + c).toNatClampNeg) ≤ i) → X 4 [some (zR 9 0), some (zI (n)), some (zI (c + 1)), none] [] M) ∧ ((¬ (M.1 9 5 ((0 : Int32) + c).toNatClampNeg) ≤ i) → (kd 9 = 8) ∧ (zin (kd 9) 1 0 (126 : Int32)) ∧ (kd 9 = 8) ∧ ∃ a1 : Sk, (RpF (M.1 9 5) a1) ∧ (¬ sk_at a1 c.toInt i.toInt = none) ∧ (0 ≤ (M.1 9 1 ((126 : Int32)).toNatClampNeg).toInt ∧ (M.1 9 1 ((126 : Int32)).toNatClampNeg).toInt < 1000000) ∧ ∀ v1 : Int32, (v1 = zp (sk_bd a1 c.toInt i.toInt (M.1 9 1 ((126 : Int32)).toNatClampNeg).toInt = true)) → ((v1 = 0) → X 12 [some (zR 9 0), some (zI (n + (0 : Int32))), some (zI (c)), some (zI (i + 1))] [] M) ∧ ((¬ v1 = 0) → X 12 [some (zR 9 0), some (zI (n + (1 : Int32))), some (zI (c)), some (zI (i + 1))] [] M)) from ⟨hk0, ⟨h.1, have h := h.2; ⟨fun q => have h := h.1 q; h, fun q => have h := h.2 q; ⟨hk0, ⟨h.1, have h := h.2; ⟨hk0, h.elim (fun a1 h => ⟨a1, ⟨h.1, have h := h.2; ⟨h.1, have h := h.2; ⟨h.1, have h := h.2; fun v1 => have h := h v1; fun q => have h := h q; ⟨fun q => have h := h.1 q; h, fun q => have h := h.2 q; h⟩⟩⟩⟩⟩)⟩⟩⟩⟩⟩⟩)
