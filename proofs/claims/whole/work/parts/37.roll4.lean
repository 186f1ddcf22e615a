def sp_X7_power : zSpec := fun kd as M K => match as with
  | [.inl c, .inl n] => (0 ≤ c.toInt ∧ c.toInt ≤ 4) ∧ (0 ≤ n.toInt ∧ n.toInt ≤ 24) ∧ ∀ v : Int64, (v.toInt = pwr c.toInt n.toInt) → K (some (.inr (.inl v))) M
  | _ => False
theorem dd_X7_power_0 : decode cX7_power 0 = .ok (.lconst 1, 1) := by decide +kernel
theorem dd_X7_power_1 : decode cX7_power 1 = .ok (.lstore_n 2, 1) := by decide +kernel
theorem dd_X7_power_2 : decode cX7_power 2 = .ok (.iconst 0, 1) := by decide +kernel
theorem dd_X7_power_3 : decode cX7_power 3 = .ok (.istore 4, 2) := by decide +kernel
theorem dd_X7_power_5 : decode cX7_power 5 = .ok (.iload 4, 2) := by decide +kernel
theorem dd_X7_power_7 : decode cX7_power 7 = .ok (.iload_n 1, 1) := by decide +kernel
theorem dd_X7_power_8 : decode cX7_power 8 = .ok (.if_icmp .ge 14, 3) := by decide +kernel
theorem dd_X7_power_11 : decode cX7_power 11 = .ok (.lload_n 2, 1) := by decide +kernel
theorem dd_X7_power_12 : decode cX7_power 12 = .ok (.iload_n 0, 1) := by decide +kernel
theorem dd_X7_power_13 : decode cX7_power 13 = .ok (.i2l, 1) := by decide +kernel
theorem dd_X7_power_14 : decode cX7_power 14 = .ok (.lmul, 1) := by decide +kernel
theorem dd_X7_power_15 : decode cX7_power 15 = .ok (.lstore_n 2, 1) := by decide +kernel
theorem dd_X7_power_16 : decode cX7_power 16 = .ok (.iinc 4 1, 3) := by decide +kernel
theorem dd_X7_power_19 : decode cX7_power 19 = .ok (.goto (-14), 3) := by decide +kernel
theorem dd_X7_power_22 : decode cX7_power 22 = .ok (.lload_n 2, 1) := by decide +kernel
theorem dd_X7_power_23 : decode cX7_power 23 = .ok (.lreturn, 1) := by decide +kernel
def tb_X7_power (kd : Nat → Nat) (K : zK) : zTab := [(0, zt_const (zL 1) 1), (1, zt_lstore 2 2), (2, zt_const (zI 0) 3), (3, zt_istore 4 5), (5, zt_iload 4 7), (7, zt_iload 1 8), (8, zt_icmp (fun x y => y ≤ x) (fun x y => ¬ y ≤ x) 22 11), (11, zt_lload 2 12), (12, zt_iload 0 13), (13, zt_un (fun x => zL x.toInt64) 14), (14, zt_binL (fun x y => x * y) 15), (15, zt_lstore 2 16), (16, zt_iinc 4 1 19), (19, zt_goto 5), (22, zt_lload 2 23), (23, zt_lret K)]
set_option maxRecDepth 20000 in
theorem tk_X7_power (d : Nat)  : zTrue RX7 cX7_power 5 (some .long) (d + 1) (fun kd K => tb_X7_power kd K) := by
  intro p l e R s m args below meth c D cy A ad bl Qm K C0 hr hlocks hQ
  obtain ⟨hx, hb, hml, hown, hts, hK, hD, hA0, hN, hE, ⟨hR1, hR2⟩, hc1, hc2⟩ := id C0
  unfold tb_X7_power
  refine List.forall_mem_cons.mpr ⟨ok_lconst hx hb dd_X7_power_0 (by decide), ?_⟩
  refine List.forall_mem_cons.mpr ⟨ok_lstore_n hx hb rfl dd_X7_power_1, ?_⟩
  refine List.forall_mem_cons.mpr ⟨ok_iconst hx hb dd_X7_power_2 (by decide), ?_⟩
  refine List.forall_mem_cons.mpr ⟨ok_istore hx hb dd_X7_power_3, ?_⟩
  refine List.forall_mem_cons.mpr ⟨ok_iload hx hb dd_X7_power_5, ?_⟩
  refine List.forall_mem_cons.mpr ⟨ok_iload_n hx hb rfl dd_X7_power_7, ?_⟩
  refine List.forall_mem_cons.mpr ⟨ok_icmp_ge hx hb dd_X7_power_8 (by decide), ?_⟩
  refine List.forall_mem_cons.mpr ⟨ok_lload_n hx hb rfl dd_X7_power_11, ?_⟩
  refine List.forall_mem_cons.mpr ⟨ok_iload_n hx hb rfl dd_X7_power_12, ?_⟩
  refine List.forall_mem_cons.mpr ⟨ok_i2l hx hb dd_X7_power_13, ?_⟩
  refine List.forall_mem_cons.mpr ⟨ok_lmul hx hb dd_X7_power_14, ?_⟩
  refine List.forall_mem_cons.mpr ⟨ok_lstore_n hx hb rfl dd_X7_power_15, ?_⟩
  refine List.forall_mem_cons.mpr ⟨ok_iinc hx hb dd_X7_power_16 (by decide), ?_⟩
  refine List.forall_mem_cons.mpr ⟨ok_goto hx hb dd_X7_power_19 (by decide), ?_⟩
  refine List.forall_mem_cons.mpr ⟨ok_lload_n hx hb rfl dd_X7_power_22, ?_⟩
  refine List.forall_mem_cons.mpr ⟨ok_lret hx hb hr hlocks hQ dd_X7_power_23, ?_⟩
  exact fun _ h => absurd h List.not_mem_nil
set_option maxRecDepth 100000 in
theorem vc_X7_power_0 {kd : Nat → Nat} {K : zK} {X : zX} (hX : ∀ (n pc : Nat) (ls : zLS) (st : List zV) (M : zM), zrun (tb_X7_power kd K) [(5, [])] n X pc ls st M → X pc ls st M) {c : Int32} {n : Int32} {M : zM}  (h : X 5 [some (zI (c)), some (zI (n)), some (zL ((1 : Int64))), none, some (zI ((0 : Int32)))] [] M) : X 0 [some (zI (c)), some (zI (n)), none, none, none] [] M := hX 6 0 _ [] M (show X 5 [some (zI (c)), some (zI (n)), some (zL ((1 : Int64))), none, some (zI ((0 : Int32)))] [] M from h)
set_option maxRecDepth 100000 in
theorem vc_X7_power_5 {kd : Nat → Nat} {K : zK} {X : zX} (hX : ∀ (n pc : Nat) (ls : zLS) (st : List zV) (M : zM), zrun (tb_X7_power kd K) [(5, [])] n X pc ls st M → X pc ls st M) {c : Int32} {n : Int32} {p : Int64} {k : Int32} {M : zM}  (h : ((n ≤ k) → K (some (zL (p))) M) ∧ ((¬ n ≤ k) → X 5 [some (zI (c)), some (zI (n)), some (zL (p * c.toInt64)), none, some (zI (k + 1))] [] M)) : X 5 [some (zI (c)), some (zI (n)), some (zL (p)), none, some (zI (k))] [] M := hX 12 5 _ [] M (show ((n ≤ k) → K (some (zL (p))) M) ∧ ((¬ n ≤ k) → X 5 [some (zI (c)), some (zI (n)), some (zL (p * c.toInt64)), none, some (zI (k + 1))] [] M) from ⟨fun q => have h := h.1 q; h, fun q => have h := h.2 q; h⟩)
def sp_X7_sideWays : zSpec := fun kd as M K => match as with
  | [.inl c, .inl n, .inl e] => (0 ≤ c.toInt ∧ c.toInt ≤ 4) ∧ (0 ≤ n.toInt ∧ n.toInt ≤ 24) ∧ ∀ v : Int64, (v.toInt = sdw c.toInt n.toInt (decide (¬ e = 0))) → K (some (.inr (.inl v))) M
  | _ => False
theorem dd_X7_sideWays_0 : decode cX7_sideWays 0 = .ok (.iload_n 0, 1) := by decide +kernel
theorem dd_X7_sideWays_1 : decode cX7_sideWays 1 = .ok (.iload_n 1, 1) := by decide +kernel
theorem dd_X7_sideWays_2 : decode cX7_sideWays 2 = .ok (.invokestatic 212, 3) := by decide +kernel
theorem dd_X7_sideWays_5 : decode cX7_sideWays 5 = .ok (.lstore_n 3, 1) := by decide +kernel
theorem dd_X7_sideWays_6 : decode cX7_sideWays 6 = .ok (.iload_n 2, 1) := by decide +kernel
theorem dd_X7_sideWays_7 : decode cX7_sideWays 7 = .ok (.ifCond .eq 13, 3) := by decide +kernel
theorem dd_X7_sideWays_10 : decode cX7_sideWays 10 = .ok (.iconst 4, 1) := by decide +kernel
theorem dd_X7_sideWays_11 : decode cX7_sideWays 11 = .ok (.iload_n 1, 1) := by decide +kernel
theorem dd_X7_sideWays_12 : decode cX7_sideWays 12 = .ok (.invokestatic 212, 3) := by decide +kernel
theorem dd_X7_sideWays_15 : decode cX7_sideWays 15 = .ok (.lload_n 3, 1) := by decide +kernel
theorem dd_X7_sideWays_16 : decode cX7_sideWays 16 = .ok (.lsub, 1) := by decide +kernel
theorem dd_X7_sideWays_17 : decode cX7_sideWays 17 = .ok (.goto 4, 3) := by decide +kernel
theorem dd_X7_sideWays_20 : decode cX7_sideWays 20 = .ok (.lload_n 3, 1) := by decide +kernel
theorem dd_X7_sideWays_21 : decode cX7_sideWays 21 = .ok (.lreturn, 1) := by decide +kernel
def tb_X7_sideWays (kd : Nat → Nat) (K : zK) : zTab := [(0, zt_iload 0 1), (1, zt_iload 1 2), (2, zt_call kd sp_X7_power 2 5), (5, zt_lstore 3 6), (6, zt_iload 2 7), (7, zt_if (fun x => x = 0) (fun x => ¬ x = 0) 20 10), (10, zt_const (zI 4) 11), (11, zt_iload 1 12), (12, zt_call kd sp_X7_power 2 15), (15, zt_lload 3 16), (16, zt_binL (fun x y => x - y) 17), (17, zt_goto 21), (20, zt_lload 3 21), (21, zt_lret K)]
set_option maxRecDepth 20000 in
theorem tk_X7_sideWays (d : Nat) (h_X7_power : zMS 1 yX7_power cX7_power 5 (some .long) sp_X7_power) : zTrue RX7 cX7_sideWays 5 (some .long) (d + 2) (fun kd K => tb_X7_sideWays kd K) := by
  intro p l e R s m args below meth c D cy A ad bl Qm K C0 hr hlocks hQ
  obtain ⟨hx, hb, hml, hown, hts, hK, hD, hA0, hN, hE, ⟨hR1, hR2⟩, hc1, hc2⟩ := id C0
  unfold tb_X7_sideWays
  refine List.forall_mem_cons.mpr ⟨ok_iload_n hx hb rfl dd_X7_sideWays_0, ?_⟩
  refine List.forall_mem_cons.mpr ⟨ok_iload_n hx hb rfl dd_X7_sideWays_1, ?_⟩
  refine List.forall_mem_cons.mpr ⟨ok_callS (n := 2) C0 (h_X7_power (d + 1) (by omega)) (by decide) wd_745 wd_743 wd_744 wd_100 ⟨by decide +kernel, by decide +kernel, by decide +kernel⟩ dd_X7_sideWays_2, ?_⟩
  refine List.forall_mem_cons.mpr ⟨ok_lstore_n hx hb rfl dd_X7_sideWays_5, ?_⟩
  refine List.forall_mem_cons.mpr ⟨ok_iload_n hx hb rfl dd_X7_sideWays_6, ?_⟩
  refine List.forall_mem_cons.mpr ⟨ok_if_eq hx hb dd_X7_sideWays_7 (by decide), ?_⟩
  refine List.forall_mem_cons.mpr ⟨ok_iconst hx hb dd_X7_sideWays_10 (by decide), ?_⟩
  refine List.forall_mem_cons.mpr ⟨ok_iload_n hx hb rfl dd_X7_sideWays_11, ?_⟩
  refine List.forall_mem_cons.mpr ⟨ok_callS (n := 2) C0 (h_X7_power (d + 1) (by omega)) (by decide) wd_745 wd_743 wd_744 wd_100 ⟨by decide +kernel, by decide +kernel, by decide +kernel⟩ dd_X7_sideWays_12, ?_⟩
  refine List.forall_mem_cons.mpr ⟨ok_lload_n hx hb rfl dd_X7_sideWays_15, ?_⟩
  refine List.forall_mem_cons.mpr ⟨ok_lsub hx hb dd_X7_sideWays_16, ?_⟩
  refine List.forall_mem_cons.mpr ⟨ok_goto hx hb dd_X7_sideWays_17 (by decide), ?_⟩
  refine List.forall_mem_cons.mpr ⟨ok_lload_n hx hb rfl dd_X7_sideWays_20, ?_⟩
  refine List.forall_mem_cons.mpr ⟨ok_lret hx hb hr hlocks hQ dd_X7_sideWays_21, ?_⟩
  exact fun _ h => absurd h List.not_mem_nil
set_option maxRecDepth 100000 in
theorem vc_X7_sideWays_0 {kd : Nat → Nat} {K : zK} {X : zX} (hX : ∀ (n pc : Nat) (ls : zLS) (st : List zV) (M : zM), zrun (tb_X7_sideWays kd K) [] n X pc ls st M → X pc ls st M) {c : Int32} {n : Int32} {e : Int32} {M : zM}  (h : (0 ≤ c.toInt ∧ c.toInt ≤ 4) ∧ (0 ≤ n.toInt ∧ n.toInt ≤ 24) ∧ ∀ v1 : Int64, (v1.toInt = pwr c.toInt n.toInt) → ((e = 0) → K (some (zL (v1))) M) ∧ ((¬ e = 0) → (0 ≤ (4 : Int32).toInt ∧ (4 : Int32).toInt ≤ 4) ∧ (0 ≤ n.toInt ∧ n.toInt ≤ 24) ∧ ∀ v2 : Int64, (v2.toInt = pwr (4 : Int32).toInt n.toInt) → K (some (zL (v2 - v1))) M)) : X 0 [some (zI (c)), some (zI (n)), some (zI (e)), none, none] [] M := hX 14 0 _ [] M (show (0 ≤ c.toInt ∧ c.toInt ≤ 4) ∧ (0 ≤ n.toInt ∧ n.toInt ≤ 24) ∧ ∀ v1 : Int64, (v1.toInt = pwr c.toInt n.toInt) → ((e = 0) → K (some (zL (v1))) M) ∧ ((¬ e = 0) → (0 ≤ (4 : Int32).toInt ∧ (4 : Int32).toInt ≤ 4) ∧ (0 ≤ n.toInt ∧ n.toInt ≤ 24) ∧ ∀ v2 : Int64, (v2.toInt = pwr (4 : Int32).toInt n.toInt) → K (some (zL (v2 - v1))) M) from ⟨h.1, have h := h.2; ⟨h.1, have h := h.2; fun v1 => have h := h v1; fun q => have h := h q; ⟨fun q => have h := h.1 q; h, fun q => have h := h.2 q; ⟨h.1, have h := h.2; ⟨h.1, have h := h.2; fun v2 => have h := h v2; fun q => have h := h q; h⟩⟩⟩⟩⟩)
def sp_X7_keepFraction : zSpec := fun kd as M K => match as with
  | [.inr (.inr (.inl (0, 0))), .inr (.inl o), .inr (.inl u)] => (kd 0 = 1) ∧ (KdX kd) ∧ ∃ s : St, (RpX kd M s) ∧ ((0 ≤ o.toInt ∧ o.toInt ≤ u.toInt) ∧ 0 < u.toInt ∧ u.toInt ≤ 281474976710656) ∧ ∀ M' : zM, (RpX kd M' (s.1, s.2.1, s.2.2.1, frc o.toInt u.toInt, s.2.2.2.2)) → (fr9 M M') → K none M'
  | _ => False
theorem rv_X7_keepFraction : zrv sp_X7_keepFraction 1 2 := by
  intro kd as M K h
  unfold sp_X7_keepFraction at h
  split at h
  · exact ⟨_, _, rfl, h.1⟩
  · exact h.elim
theorem dd_X7_keepFraction_0 : decode cX7_keepFraction 0 = .ok (.lload_n 3, 1) := by decide +kernel
theorem dd_X7_keepFraction_1 : decode cX7_keepFraction 1 = .ok (.lstore 5, 2) := by decide +kernel
theorem dd_X7_keepFraction_3 : decode cX7_keepFraction 3 = .ok (.lload_n 1, 1) := by decide +kernel
theorem dd_X7_keepFraction_4 : decode cX7_keepFraction 4 = .ok (.lstore 7, 2) := by decide +kernel
theorem dd_X7_keepFraction_6 : decode cX7_keepFraction 6 = .ok (.iconst 0, 1) := by decide +kernel
theorem dd_X7_keepFraction_7 : decode cX7_keepFraction 7 = .ok (.istore 9, 2) := by decide +kernel
theorem dd_X7_keepFraction_9 : decode cX7_keepFraction 9 = .ok (.iload 9, 2) := by decide +kernel
theorem dd_X7_keepFraction_11 : decode cX7_keepFraction 11 = .ok (.bipush 100, 2) := by decide +kernel
theorem dd_X7_keepFraction_13 : decode cX7_keepFraction 13 = .ok (.if_icmp .ge 31, 3) := by decide +kernel
theorem dd_X7_keepFraction_16 : decode cX7_keepFraction 16 = .ok (.lload 7, 2) := by decide +kernel
theorem dd_X7_keepFraction_18 : decode cX7_keepFraction 18 = .ok (.lconst 0, 1) := by decide +kernel
theorem dd_X7_keepFraction_19 : decode cX7_keepFraction 19 = .ok (.lcmp, 1) := by decide +kernel
theorem dd_X7_keepFraction_20 : decode cX7_keepFraction 20 = .ok (.ifCond .eq 24, 3) := by decide +kernel
theorem dd_X7_keepFraction_23 : decode cX7_keepFraction 23 = .ok (.lload 5, 2) := by decide +kernel
theorem dd_X7_keepFraction_25 : decode cX7_keepFraction 25 = .ok (.lload 7, 2) := by decide +kernel
theorem dd_X7_keepFraction_27 : decode cX7_keepFraction 27 = .ok (.lrem, 1) := by decide +kernel
theorem dd_X7_keepFraction_28 : decode cX7_keepFraction 28 = .ok (.lstore 10, 2) := by decide +kernel
theorem dd_X7_keepFraction_30 : decode cX7_keepFraction 30 = .ok (.lload 7, 2) := by decide +kernel
theorem dd_X7_keepFraction_32 : decode cX7_keepFraction 32 = .ok (.lstore 5, 2) := by decide +kernel
theorem dd_X7_keepFraction_34 : decode cX7_keepFraction 34 = .ok (.lload 10, 2) := by decide +kernel
theorem dd_X7_keepFraction_36 : decode cX7_keepFraction 36 = .ok (.lstore 7, 2) := by decide +kernel
theorem dd_X7_keepFraction_38 : decode cX7_keepFraction 38 = .ok (.iinc 9 1, 3) := by decide +kernel
theorem dd_X7_keepFraction_41 : decode cX7_keepFraction 41 = .ok (.goto (-32), 3) := by decide +kernel
theorem dd_X7_keepFraction_44 : decode cX7_keepFraction 44 = .ok (.lload 5, 2) := by decide +kernel
theorem dd_X7_keepFraction_46 : decode cX7_keepFraction 46 = .ok (.lconst 0, 1) := by decide +kernel
theorem dd_X7_keepFraction_47 : decode cX7_keepFraction 47 = .ok (.lcmp, 1) := by decide +kernel
theorem dd_X7_keepFraction_48 : decode cX7_keepFraction 48 = .ok (.ifCond .le 19, 3) := by decide +kernel
theorem dd_X7_keepFraction_51 : decode cX7_keepFraction 51 = .ok (.aload_n 0, 1) := by decide +kernel
theorem dd_X7_keepFraction_52 : decode cX7_keepFraction 52 = .ok (.lload_n 1, 1) := by decide +kernel
theorem dd_X7_keepFraction_53 : decode cX7_keepFraction 53 = .ok (.lload 5, 2) := by decide +kernel
theorem dd_X7_keepFraction_55 : decode cX7_keepFraction 55 = .ok (.ldiv, 1) := by decide +kernel
theorem dd_X7_keepFraction_56 : decode cX7_keepFraction 56 = .ok (.putfield 45, 3) := by decide +kernel
theorem dd_X7_keepFraction_59 : decode cX7_keepFraction 59 = .ok (.aload_n 0, 1) := by decide +kernel
theorem dd_X7_keepFraction_60 : decode cX7_keepFraction 60 = .ok (.lload_n 3, 1) := by decide +kernel
theorem dd_X7_keepFraction_61 : decode cX7_keepFraction 61 = .ok (.lload 5, 2) := by decide +kernel
theorem dd_X7_keepFraction_63 : decode cX7_keepFraction 63 = .ok (.ldiv, 1) := by decide +kernel
theorem dd_X7_keepFraction_64 : decode cX7_keepFraction 64 = .ok (.putfield 49, 3) := by decide +kernel
theorem dd_X7_keepFraction_67 : decode cX7_keepFraction 67 = .ok (.return_, 1) := by decide +kernel
def tb_X7_keepFraction (kd : Nat → Nat) (K : zK) : zTab := [(0, zt_lload 3 1), (1, zt_lstore 5 3), (3, zt_lload 1 4), (4, zt_lstore 7 6), (6, zt_const (zI 0) 7), (7, zt_istore 9 9), (9, zt_iload 9 11), (11, zt_const (zI 100) 13), (13, zt_icmp (fun x y => y ≤ x) (fun x y => ¬ y ≤ x) 44 16), (16, zt_lload 7 18), (18, zt_const (zL 0) 19), (19, zt_lcmp 20), (20, zt_if (fun x => x = 0) (fun x => ¬ x = 0) 44 23), (23, zt_lload 5 25), (25, zt_lload 7 27), (27, zt_divL (fun x y => x - x / y * y) 28), (28, zt_lstore 10 30), (30, zt_lload 7 32), (32, zt_lstore 5 34), (34, zt_lload 10 36), (36, zt_lstore 7 38), (38, zt_iinc 9 1 41), (41, zt_goto 9), (44, zt_lload 5 46), (46, zt_const (zL 0) 47), (47, zt_lcmp 48), (48, zt_if (fun x => x ≤ 0) (fun x => ¬ x ≤ 0) 67 51), (51, zt_aload 0 52), (52, zt_lload 1 53), (53, zt_lload 5 55), (55, zt_divL (fun x y => x / y) 56), (56, zt_putL kd 1 6 59), (59, zt_aload 0 60), (60, zt_lload 3 61), (61, zt_lload 5 63), (63, zt_divL (fun x y => x / y) 64), (64, zt_putL kd 1 7 67), (67, zt_vret K)]
set_option maxRecDepth 20000 in
theorem tk_X7_keepFraction (d : Nat)  : zTrue RX7 cX7_keepFraction 12 none (d + 1) (fun kd K => tb_X7_keepFraction kd K) := by
  intro p l e R s m args below meth c D cy A ad bl Qm K C0 hr hlocks hQ
  obtain ⟨hx, hb, hml, hown, hts, hK, hD, hA0, hN, hE, ⟨hR1, hR2⟩, hc1, hc2⟩ := id C0
  unfold tb_X7_keepFraction
  refine List.forall_mem_cons.mpr ⟨ok_lload_n hx hb rfl dd_X7_keepFraction_0, ?_⟩
  refine List.forall_mem_cons.mpr ⟨ok_lstore hx hb dd_X7_keepFraction_1, ?_⟩
  refine List.forall_mem_cons.mpr ⟨ok_lload_n hx hb rfl dd_X7_keepFraction_3, ?_⟩
  refine List.forall_mem_cons.mpr ⟨ok_lstore hx hb dd_X7_keepFraction_4, ?_⟩
  refine List.forall_mem_cons.mpr ⟨ok_iconst hx hb dd_X7_keepFraction_6 (by decide), ?_⟩
  refine List.forall_mem_cons.mpr ⟨ok_istore hx hb dd_X7_keepFraction_7, ?_⟩
  refine List.forall_mem_cons.mpr ⟨ok_iload hx hb dd_X7_keepFraction_9, ?_⟩
  refine List.forall_mem_cons.mpr ⟨ok_bipush hx hb dd_X7_keepFraction_11 (by decide), ?_⟩
  refine List.forall_mem_cons.mpr ⟨ok_icmp_ge hx hb dd_X7_keepFraction_13 (by decide), ?_⟩
  refine List.forall_mem_cons.mpr ⟨ok_lload hx hb dd_X7_keepFraction_16, ?_⟩
  refine List.forall_mem_cons.mpr ⟨ok_lconst hx hb dd_X7_keepFraction_18 (by decide), ?_⟩
  refine List.forall_mem_cons.mpr ⟨ok_lcmp hx hb dd_X7_keepFraction_19, ?_⟩
  refine List.forall_mem_cons.mpr ⟨ok_if_eq hx hb dd_X7_keepFraction_20 (by decide), ?_⟩
  refine List.forall_mem_cons.mpr ⟨ok_lload hx hb dd_X7_keepFraction_23, ?_⟩
  refine List.forall_mem_cons.mpr ⟨ok_lload hx hb dd_X7_keepFraction_25, ?_⟩
  refine List.forall_mem_cons.mpr ⟨ok_lrem hx hb dd_X7_keepFraction_27, ?_⟩
  refine List.forall_mem_cons.mpr ⟨ok_lstore hx hb dd_X7_keepFraction_28, ?_⟩
  refine List.forall_mem_cons.mpr ⟨ok_lload hx hb dd_X7_keepFraction_30, ?_⟩
  refine List.forall_mem_cons.mpr ⟨ok_lstore hx hb dd_X7_keepFraction_32, ?_⟩
  refine List.forall_mem_cons.mpr ⟨ok_lload hx hb dd_X7_keepFraction_34, ?_⟩
  refine List.forall_mem_cons.mpr ⟨ok_lstore hx hb dd_X7_keepFraction_36, ?_⟩
  refine List.forall_mem_cons.mpr ⟨ok_iinc hx hb dd_X7_keepFraction_38 (by decide), ?_⟩
  refine List.forall_mem_cons.mpr ⟨ok_goto hx hb dd_X7_keepFraction_41 (by decide), ?_⟩
  refine List.forall_mem_cons.mpr ⟨ok_lload hx hb dd_X7_keepFraction_44, ?_⟩
  refine List.forall_mem_cons.mpr ⟨ok_lconst hx hb dd_X7_keepFraction_46 (by decide), ?_⟩
  refine List.forall_mem_cons.mpr ⟨ok_lcmp hx hb dd_X7_keepFraction_47, ?_⟩
  refine List.forall_mem_cons.mpr ⟨ok_if_le hx hb dd_X7_keepFraction_48 (by decide), ?_⟩
  refine List.forall_mem_cons.mpr ⟨ok_aload_n hx hb rfl dd_X7_keepFraction_51, ?_⟩
  refine List.forall_mem_cons.mpr ⟨ok_lload_n hx hb rfl dd_X7_keepFraction_52, ?_⟩
  refine List.forall_mem_cons.mpr ⟨ok_lload hx hb dd_X7_keepFraction_53, ?_⟩
  refine List.forall_mem_cons.mpr ⟨ok_ldiv hx hb dd_X7_keepFraction_55, ?_⟩
  refine List.forall_mem_cons.mpr ⟨ok_putL (j := 6) hx hb hts zi_X7 tyX7 tyX7_ok nmX7 hown hK hD zc_X7 (by decide) rfl rfl (by decide +kernel) (fun t fl h => by cases h; rfl) (hts _ wd_277) dd_X7_keepFraction_56, ?_⟩
  refine List.forall_mem_cons.mpr ⟨ok_aload_n hx hb rfl dd_X7_keepFraction_59, ?_⟩
  refine List.forall_mem_cons.mpr ⟨ok_lload_n hx hb rfl dd_X7_keepFraction_60, ?_⟩
  refine List.forall_mem_cons.mpr ⟨ok_lload hx hb dd_X7_keepFraction_61, ?_⟩
  refine List.forall_mem_cons.mpr ⟨ok_ldiv hx hb dd_X7_keepFraction_63, ?_⟩
  refine List.forall_mem_cons.mpr ⟨ok_putL (j := 7) hx hb hts zi_X7 tyX7 tyX7_ok nmX7 hown hK hD zc_X7 (by decide) rfl rfl (by decide +kernel) (fun t fl h => by cases h; rfl) (hts _ wd_278) dd_X7_keepFraction_64, ?_⟩
  refine List.forall_mem_cons.mpr ⟨ok_vret hx hb hr hlocks hQ dd_X7_keepFraction_67, ?_⟩
  exact fun _ h => absurd h List.not_mem_nil
set_option maxRecDepth 100000 in
theorem vc_X7_keepFraction_0 {kd : Nat → Nat} {K : zK} {X : zX} (hX : ∀ (n pc : Nat) (ls : zLS) (st : List zV) (M : zM), zrun (tb_X7_keepFraction kd K) [(9, [10, 11]), (44, [7, 8, 9, 10, 11])] n X pc ls st M → X pc ls st M) {o : Int64} {u : Int64} {M : zM}  (h : X 9 [some (zR 0 0), some (zL (o)), none, some (zL (u)), none, some (zL (u)), none, some (zL (o)), none, some (zI ((0 : Int32))), none, none] [] M) : X 0 [some (zR 0 0), some (zL (o)), none, some (zL (u)), none, none, none, none, none, none, none, none] [] M := hX 8 0 _ [] M (show X 9 [some (zR 0 0), some (zL (o)), none, some (zL (u)), none, some (zL (u)), none, some (zL (o)), none, some (zI ((0 : Int32))), none, none] [] M from h)
set_option maxRecDepth 100000 in
theorem vc_X7_keepFraction_9 {kd : Nat → Nat} {K : zK} {X : zX} (hX : ∀ (n pc : Nat) (ls : zLS) (st : List zV) (M : zM), zrun (tb_X7_keepFraction kd K) [(9, [10, 11]), (44, [7, 8, 9, 10, 11])] n X pc ls st M → X pc ls st M) {o : Int64} {u : Int64} {p : Int64} {q : Int64} {k : Int32} {M : zM}  (h : (((100 : Int32) ≤ k) → X 44 [some (zR 0 0), some (zL (o)), none, some (zL (u)), none, some (zL (p)), none, none, none, none, none, none] [] M) ∧ ((¬ (100 : Int32) ≤ k) → (((lg_cmp q (0 : Int64)) = 0) → X 44 [some (zR 0 0), some (zL (o)), none, some (zL (u)), none, some (zL (p)), none, none, none, none, none, none] [] M) ∧ ((¬ (lg_cmp q (0 : Int64)) = 0) → (¬ q = 0) ∧ X 9 [some (zR 0 0), some (zL (o)), none, some (zL (u)), none, some (zL (q)), none, some (zL (p - p / q * q)), none, some (zI (k + 1)), none, none] [] M))) : X 9 [some (zR 0 0), some (zL (o)), none, some (zL (u)), none, some (zL (p)), none, some (zL (q)), none, some (zI (k)), none, none] [] M := hX 19 9 _ [] M (show (((100 : Int32) ≤ k) → X 44 [some (zR 0 0), some (zL (o)), none, some (zL (u)), none, some (zL (p)), none, none, none, none, none, none] [] M) ∧ ((¬ (100 : Int32) ≤ k) → (((lg_cmp q (0 : Int64)) = 0) → X 44 [some (zR 0 0), some (zL (o)), none, some (zL (u)), none, some (zL (p)), none, none, none, none, none, none] [] M) ∧ ((¬ (lg_cmp q (0 : Int64)) = 0) → (¬ q = 0) ∧ X 9 [some (zR 0 0), some (zL (o)), none, some (zL (u)), none, some (zL (q)), none, some (zL (p - p / q * q)), none, some (zI (k + 1)), none, none] [] M)) from ⟨fun q => have h := h.1 q; h, fun q => have h := h.2 q; ⟨fun q => have h := h.1 q; h, fun q => have h := h.2 q; ⟨h.1, have h := h.2; h⟩⟩⟩)
set_option maxRecDepth 100000 in
theorem vc_X7_keepFraction_44 {kd : Nat → Nat} {K : zK} {X : zX} (hX : ∀ (n pc : Nat) (ls : zLS) (st : List zV) (M : zM), zrun (tb_X7_keepFraction kd K) [(9, [10, 11]), (44, [7, 8, 9, 10, 11])] n X pc ls st M → X pc ls st M) {o : Int64} {u : Int64} {p : Int64} {M : zM} (hk0 : kd 0 = 1) (h : (((lg_cmp p (0 : Int64)) ≤ 0) → K none M) ∧ ((¬ (lg_cmp p (0 : Int64)) ≤ 0) → (¬ p = 0) ∧ ∀ M1 : zM, (M1 = zml M 0 6 (o / p)) → (¬ p = 0) ∧ ∀ M2 : zM, (M2 = zml M1 0 7 (u / p)) → K none M2)) : X 44 [some (zR 0 0), some (zL (o)), none, some (zL (u)), none, some (zL (p)), none, none, none, none, none, none] [] M := hX 16 44 _ [] M (show (((lg_cmp p (0 : Int64)) ≤ 0) → K none M) ∧ ((¬ (lg_cmp p (0 : Int64)) ≤ 0) → (¬ p = 0) ∧ (kd 0 = 1) ∧ ∀ M1 : zM, (M1 = zml M 0 6 (o / p)) → (¬ p = 0) ∧ (kd 0 = 1) ∧ ∀ M2 : zM, (M2 = zml M1 0 7 (u / p)) → K none M2) from ⟨fun q => have h := h.1 q; h, fun q => have h := h.2 q; ⟨h.1, have h := h.2; ⟨hk0, fun M1 => have h := h M1; fun q => have h := h q; ⟨h.1, have h := h.2; ⟨hk0, fun M2 => have h := h M2; fun q => have h := h q; h⟩⟩⟩⟩⟩)
def sp_X7_thumbs : zSpec := fun kd as M K => match as with
  | [.inr (.inr (.inl (0, 0))), .inl g, .inl y, .inl z, .inl c] => (kd 0 = 1) ∧ (KdX kd) ∧ ∃ s : St, (RpX kd M s) ∧ ∀ v : Int32, (v.toInt = (ev_thumbs s g.toInt y.toInt z.toInt c.toInt).1) → ∀ M' : zM, (RpX kd M' (ev_thumbs s g.toInt y.toInt z.toInt c.toInt).2) → (fr9 M M') → K (some (.inl v)) M'
  | _ => False
theorem rv_X7_thumbs : zrv sp_X7_thumbs 1 4 := by
  intro kd as M K h
  unfold sp_X7_thumbs at h
  split at h
  · exact ⟨_, _, rfl, h.1⟩
  · exact h.elim
theorem dd_X7_thumbs_0 : decode cX7_thumbs 0 = .ok (.iload_n 1, 1) := by decide +kernel
theorem dd_X7_thumbs_1 : decode cX7_thumbs 1 = .ok (.invokestatic 70, 3) := by decide +kernel
theorem dd_X7_thumbs_4 : decode cX7_thumbs 4 = .ok (.ifCond .eq 29, 3) := by decide +kernel
theorem dd_X7_thumbs_7 : decode cX7_thumbs 7 = .ok (.iload_n 2, 1) := by decide +kernel
theorem dd_X7_thumbs_8 : decode cX7_thumbs 8 = .ok (.invokestatic 148, 3) := by decide +kernel
theorem dd_X7_thumbs_11 : decode cX7_thumbs 11 = .ok (.ifCond .eq 22, 3) := by decide +kernel
theorem dd_X7_thumbs_14 : decode cX7_thumbs 14 = .ok (.iload_n 3, 1) := by decide +kernel
theorem dd_X7_thumbs_15 : decode cX7_thumbs 15 = .ok (.iconst 0, 1) := by decide +kernel
theorem dd_X7_thumbs_16 : decode cX7_thumbs 16 = .ok (.iconst 3, 1) := by decide +kernel
theorem dd_X7_thumbs_17 : decode cX7_thumbs 17 = .ok (.invokestatic 66, 3) := by decide +kernel
theorem dd_X7_thumbs_20 : decode cX7_thumbs 20 = .ok (.ifCond .eq 13, 3) := by decide +kernel
theorem dd_X7_thumbs_23 : decode cX7_thumbs 23 = .ok (.iload 4, 2) := by decide +kernel
theorem dd_X7_thumbs_25 : decode cX7_thumbs 25 = .ok (.iconst 0, 1) := by decide +kernel
theorem dd_X7_thumbs_26 : decode cX7_thumbs 26 = .ok (.iconst 4, 1) := by decide +kernel
theorem dd_X7_thumbs_27 : decode cX7_thumbs 27 = .ok (.invokestatic 66, 3) := by decide +kernel
theorem dd_X7_thumbs_30 : decode cX7_thumbs 30 = .ok (.ifCond .ne 10, 3) := by decide +kernel
theorem dd_X7_thumbs_33 : decode cX7_thumbs 33 = .ok (.aload_n 0, 1) := by decide +kernel
theorem dd_X7_thumbs_34 : decode cX7_thumbs 34 = .ok (.bipush (-2), 2) := by decide +kernel
theorem dd_X7_thumbs_36 : decode cX7_thumbs 36 = .ok (.invokevirtual 73, 3) := by decide +kernel
theorem dd_X7_thumbs_39 : decode cX7_thumbs 39 = .ok (.ireturn, 1) := by decide +kernel
theorem dd_X7_thumbs_40 : decode cX7_thumbs 40 = .ok (.aload_n 0, 1) := by decide +kernel
theorem dd_X7_thumbs_41 : decode cX7_thumbs 41 = .ok (.getfield 12, 3) := by decide +kernel
theorem dd_X7_thumbs_44 : decode cX7_thumbs 44 = .ok (.getfield 52, 3) := by decide +kernel
theorem dd_X7_thumbs_47 : decode cX7_thumbs 47 = .ok (.iload_n 1, 1) := by decide +kernel
theorem dd_X7_thumbs_48 : decode cX7_thumbs 48 = .ok (.iconst 1, 1) := by decide +kernel
theorem dd_X7_thumbs_49 : decode cX7_thumbs 49 = .ok (.iload_n 2, 1) := by decide +kernel
theorem dd_X7_thumbs_50 : decode cX7_thumbs 50 = .ok (.invokevirtual 205, 3) := by decide +kernel
theorem dd_X7_thumbs_53 : decode cX7_thumbs 53 = .ok (.istore 5, 2) := by decide +kernel
theorem dd_X7_thumbs_55 : decode cX7_thumbs 55 = .ok (.aload_n 0, 1) := by decide +kernel
theorem dd_X7_thumbs_56 : decode cX7_thumbs 56 = .ok (.getfield 12, 3) := by decide +kernel
theorem dd_X7_thumbs_59 : decode cX7_thumbs 59 = .ok (.getfield 52, 3) := by decide +kernel
theorem dd_X7_thumbs_62 : decode cX7_thumbs 62 = .ok (.iload_n 1, 1) := by decide +kernel
theorem dd_X7_thumbs_63 : decode cX7_thumbs 63 = .ok (.iconst 0, 1) := by decide +kernel
theorem dd_X7_thumbs_64 : decode cX7_thumbs 64 = .ok (.iload_n 2, 1) := by decide +kernel
theorem dd_X7_thumbs_65 : decode cX7_thumbs 65 = .ok (.invokevirtual 205, 3) := by decide +kernel
theorem dd_X7_thumbs_68 : decode cX7_thumbs 68 = .ok (.istore 6, 2) := by decide +kernel
theorem dd_X7_thumbs_70 : decode cX7_thumbs 70 = .ok (.iload 4, 2) := by decide +kernel
theorem dd_X7_thumbs_72 : decode cX7_thumbs 72 = .ok (.iload 5, 2) := by decide +kernel
theorem dd_X7_thumbs_74 : decode cX7_thumbs 74 = .ok (.iload_n 3, 1) := by decide +kernel
theorem dd_X7_thumbs_75 : decode cX7_thumbs 75 = .ok (.iconst 1, 1) := by decide +kernel
theorem dd_X7_thumbs_76 : decode cX7_thumbs 76 = .ok (.iand, 1) := by decide +kernel
theorem dd_X7_thumbs_77 : decode cX7_thumbs 77 = .ok (.ifCond .eq 7, 3) := by decide +kernel
theorem dd_X7_thumbs_80 : decode cX7_thumbs 80 = .ok (.iconst 1, 1) := by decide +kernel
theorem dd_X7_thumbs_81 : decode cX7_thumbs 81 = .ok (.goto 4, 3) := by decide +kernel
theorem dd_X7_thumbs_84 : decode cX7_thumbs 84 = .ok (.iconst 0, 1) := by decide +kernel
theorem dd_X7_thumbs_85 : decode cX7_thumbs 85 = .ok (.invokestatic 208, 3) := by decide +kernel
theorem dd_X7_thumbs_88 : decode cX7_thumbs 88 = .ok (.iload 4, 2) := by decide +kernel
theorem dd_X7_thumbs_90 : decode cX7_thumbs 90 = .ok (.iload 6, 2) := by decide +kernel
theorem dd_X7_thumbs_92 : decode cX7_thumbs 92 = .ok (.iload_n 3, 1) := by decide +kernel
theorem dd_X7_thumbs_93 : decode cX7_thumbs 93 = .ok (.iconst 2, 1) := by decide +kernel
theorem dd_X7_thumbs_94 : decode cX7_thumbs 94 = .ok (.iand, 1) := by decide +kernel
theorem dd_X7_thumbs_95 : decode cX7_thumbs 95 = .ok (.ifCond .eq 7, 3) := by decide +kernel
theorem dd_X7_thumbs_98 : decode cX7_thumbs 98 = .ok (.iconst 1, 1) := by decide +kernel
theorem dd_X7_thumbs_99 : decode cX7_thumbs 99 = .ok (.goto 4, 3) := by decide +kernel
theorem dd_X7_thumbs_102 : decode cX7_thumbs 102 = .ok (.iconst 0, 1) := by decide +kernel
theorem dd_X7_thumbs_103 : decode cX7_thumbs 103 = .ok (.invokestatic 208, 3) := by decide +kernel
theorem dd_X7_thumbs_106 : decode cX7_thumbs 106 = .ok (.lmul, 1) := by decide +kernel
theorem dd_X7_thumbs_107 : decode cX7_thumbs 107 = .ok (.lstore 7, 2) := by decide +kernel
theorem dd_X7_thumbs_109 : decode cX7_thumbs 109 = .ok (.aload_n 0, 1) := by decide +kernel
theorem dd_X7_thumbs_110 : decode cX7_thumbs 110 = .ok (.lload 7, 2) := by decide +kernel
theorem dd_X7_thumbs_112 : decode cX7_thumbs 112 = .ok (.iconst 4, 1) := by decide +kernel
theorem dd_X7_thumbs_113 : decode cX7_thumbs 113 = .ok (.iload 5, 2) := by decide +kernel
theorem dd_X7_thumbs_115 : decode cX7_thumbs 115 = .ok (.iload 6, 2) := by decide +kernel
theorem dd_X7_thumbs_117 : decode cX7_thumbs 117 = .ok (.iadd, 1) := by decide +kernel
theorem dd_X7_thumbs_118 : decode cX7_thumbs 118 = .ok (.invokestatic 212, 3) := by decide +kernel
theorem dd_X7_thumbs_121 : decode cX7_thumbs 121 = .ok (.invokevirtual 216, 3) := by decide +kernel
theorem dd_X7_thumbs_124 : decode cX7_thumbs 124 = .ok (.iconst 1, 1) := by decide +kernel
theorem dd_X7_thumbs_125 : decode cX7_thumbs 125 = .ok (.ireturn, 1) := by decide +kernel
def tb_X7_thumbs (kd : Nat → Nat) (K : zK) : zTab := [(0, zt_iload 1 1), (1, zt_call kd sp_X7_isThing 1 4), (4, zt_if (fun x => x = 0) (fun x => ¬ x = 0) 33 7), (7, zt_iload 2 8), (8, zt_call kd sp_X7_isYear 1 11), (11, zt_if (fun x => x = 0) (fun x => ¬ x = 0) 33 14), (14, zt_iload 3 15), (15, zt_const (zI 0) 16), (16, zt_const (zI 3) 17), (17, zt_call kd sp_X7_within 3 20), (20, zt_if (fun x => x = 0) (fun x => ¬ x = 0) 33 23), (23, zt_iload 4 25), (25, zt_const (zI 0) 26), (26, zt_const (zI 4) 27), (27, zt_call kd sp_X7_within 3 30), (30, zt_if (fun x => ¬ x = 0) (fun x => x = 0) 40 33), (33, zt_aload 0 34), (34, zt_const (zI (-2)) 36), (36, zt_call kd sp_X7_refuse 2 39), (39, zt_iret K), (40, zt_aload 0 41), (41, zt_getR kd 1 1 0 44), (44, zt_getR kd 2 1 0 47), (47, zt_iload 1 48), (48, zt_const (zI 1) 49), (49, zt_iload 2 50), (50, zt_call kd sp_X3_tally 4 53), (53, zt_istore 5 55), (55, zt_aload 0 56), (56, zt_getR kd 1 1 0 59), (59, zt_getR kd 2 1 0 62), (62, zt_iload 1 63), (63, zt_const (zI 0) 64), (64, zt_iload 2 65), (65, zt_call kd sp_X3_tally 4 68), (68, zt_istore 6 70), (70, zt_iload 4 72), (72, zt_iload 5 74), (74, zt_iload 3 75), (75, zt_const (zI 1) 76), (76, zt_bin (fun x y => x &&& y) 77), (77, zt_if (fun x => x = 0) (fun x => ¬ x = 0) 84 80), (80, zt_const (zI 1) 81), (81, zt_goto 85), (84, zt_const (zI 0) 85), (85, zt_call kd sp_X7_sideWays 3 88), (88, zt_iload 4 90), (90, zt_iload 6 92), (92, zt_iload 3 93), (93, zt_const (zI 2) 94), (94, zt_bin (fun x y => x &&& y) 95), (95, zt_if (fun x => x = 0) (fun x => ¬ x = 0) 102 98), (98, zt_const (zI 1) 99), (99, zt_goto 103), (102, zt_const (zI 0) 103), (103, zt_call kd sp_X7_sideWays 3 106), (106, zt_binL (fun x y => x * y) 107), (107, zt_lstore 7 109), (109, zt_aload 0 110), (110, zt_lload 7 112), (112, zt_const (zI 4) 113), (113, zt_iload 5 115), (115, zt_iload 6 117), (117, zt_bin (fun x y => x + y) 118), (118, zt_call kd sp_X7_power 2 121), (121, zt_call kd sp_X7_keepFraction 3 124), (124, zt_const (zI 1) 125), (125, zt_iret K)]
set_option maxRecDepth 20000 in
theorem tk_X7_thumbs (d : Nat) (h_X7_isThing : zMS 1 yX7_isThing cX7_isThing 1 (some .boolean) sp_X7_isThing) (h_X7_isYear : zMS 1 yX7_isYear cX7_isYear 1 (some .boolean) sp_X7_isYear) (h_X7_within : zMS 1 yX7_within cX7_within 3 (some .boolean) sp_X7_within) (h_X7_refuse : zMS 2 yX7_refuse cX7_refuse 3 (some .int) sp_X7_refuse) (h_X3_tally : zMS 4 yX3_tally cX3_tally 8 (some .int) sp_X3_tally) (h_X7_sideWays : zMS 2 yX7_sideWays cX7_sideWays 5 (some .long) sp_X7_sideWays) (h_X7_power : zMS 1 yX7_power cX7_power 5 (some .long) sp_X7_power) (h_X7_keepFraction : zMS 1 yX7_keepFraction cX7_keepFraction 12 none sp_X7_keepFraction) : zTrue RX7 cX7_thumbs 9 (some .int) (d + 5) (fun kd K => tb_X7_thumbs kd K) := by
  intro p l e R s m args below meth c D cy A ad bl Qm K C0 hr hlocks hQ
  obtain ⟨hx, hb, hml, hown, hts, hK, hD, hA0, hN, hE, ⟨hR1, hR2⟩, hc1, hc2⟩ := id C0
  unfold tb_X7_thumbs
  refine List.forall_mem_cons.mpr ⟨ok_iload_n hx hb rfl dd_X7_thumbs_0, ?_⟩
  refine List.forall_mem_cons.mpr ⟨ok_callS (n := 1) C0 (h_X7_isThing (d + 4) (by omega)) (by decide) wd_324 wd_322 wd_323 wd_100 ⟨by decide +kernel, by decide +kernel, by decide +kernel⟩ dd_X7_thumbs_1, ?_⟩
  refine List.forall_mem_cons.mpr ⟨ok_if_eq hx hb dd_X7_thumbs_4 (by decide), ?_⟩
  refine List.forall_mem_cons.mpr ⟨ok_iload_n hx hb rfl dd_X7_thumbs_7, ?_⟩
  refine List.forall_mem_cons.mpr ⟨ok_callS (n := 1) C0 (h_X7_isYear (d + 4) (by omega)) (by decide) wd_550 wd_548 wd_549 wd_100 ⟨by decide +kernel, by decide +kernel, by decide +kernel⟩ dd_X7_thumbs_8, ?_⟩
  refine List.forall_mem_cons.mpr ⟨ok_if_eq hx hb dd_X7_thumbs_11 (by decide), ?_⟩
  refine List.forall_mem_cons.mpr ⟨ok_iload_n hx hb rfl dd_X7_thumbs_14, ?_⟩
  refine List.forall_mem_cons.mpr ⟨ok_iconst hx hb dd_X7_thumbs_15 (by decide), ?_⟩
  refine List.forall_mem_cons.mpr ⟨ok_iconst hx hb dd_X7_thumbs_16 (by decide), ?_⟩
  refine List.forall_mem_cons.mpr ⟨ok_callS (n := 3) C0 (h_X7_within (d + 4) (by omega)) (by decide) wd_321 wd_319 wd_320 wd_100 ⟨by decide +kernel, by decide +kernel, by decide +kernel⟩ dd_X7_thumbs_17, ?_⟩
  refine List.forall_mem_cons.mpr ⟨ok_if_eq hx hb dd_X7_thumbs_20 (by decide), ?_⟩
  refine List.forall_mem_cons.mpr ⟨ok_iload hx hb dd_X7_thumbs_23, ?_⟩
  refine List.forall_mem_cons.mpr ⟨ok_iconst hx hb dd_X7_thumbs_25 (by decide), ?_⟩
  refine List.forall_mem_cons.mpr ⟨ok_iconst hx hb dd_X7_thumbs_26 (by decide), ?_⟩
  refine List.forall_mem_cons.mpr ⟨ok_callS (n := 3) C0 (h_X7_within (d + 4) (by omega)) (by decide) wd_321 wd_319 wd_320 wd_100 ⟨by decide +kernel, by decide +kernel, by decide +kernel⟩ dd_X7_thumbs_27, ?_⟩
  refine List.forall_mem_cons.mpr ⟨ok_if_ne hx hb dd_X7_thumbs_30 (by decide), ?_⟩
  refine List.forall_mem_cons.mpr ⟨ok_aload_n hx hb rfl dd_X7_thumbs_33, ?_⟩
  refine List.forall_mem_cons.mpr ⟨ok_bipush hx hb dd_X7_thumbs_34 (by decide), ?_⟩
  refine List.forall_mem_cons.mpr ⟨ok_callV (n := 1) zc_X7 rv_X7_refuse C0 (h_X7_refuse (d + 4) (by omega)) (by decide) wd_328 wd_325 wd_327 wd_3 wd_100 ⟨rfl, by decide +kernel, by decide +kernel, by decide +kernel⟩ dd_X7_thumbs_36, ?_⟩
  refine List.forall_mem_cons.mpr ⟨ok_iret hx hb hr hlocks hQ dd_X7_thumbs_39, ?_⟩
  refine List.forall_mem_cons.mpr ⟨ok_aload_n hx hb rfl dd_X7_thumbs_40, ?_⟩
  refine List.forall_mem_cons.mpr ⟨ok_getR (j := 0) hx hb hts zi_X7 hown hK zc_X7 (by decide) rfl (fun t fl h => by cases h; rfl) (hts _ wd_271) dd_X7_thumbs_41, ?_⟩
  refine List.forall_mem_cons.mpr ⟨ok_getRN (j := 0) hx hb hts zi_X2 hown hK zc_X2 (by decide) rfl (fun t fl h => by cases h; rfl) (va_Nw.use rfl (hN _ nd_201)) dd_X7_thumbs_44, ?_⟩
  refine List.forall_mem_cons.mpr ⟨ok_iload_n hx hb rfl dd_X7_thumbs_47, ?_⟩
  refine List.forall_mem_cons.mpr ⟨ok_iconst hx hb dd_X7_thumbs_48 (by decide), ?_⟩
  refine List.forall_mem_cons.mpr ⟨ok_iload_n hx hb rfl dd_X7_thumbs_49, ?_⟩
  refine List.forall_mem_cons.mpr ⟨ok_callVN (n := 3) zc_X3 rv_X3_tally C0 (h_X3_tally (d + 4) (by omega)) (by decide) wd_615 nd_739 wd_614 wd_34 wd_102 ⟨by decide +kernel, by decide +kernel, by decide +kernel⟩ dd_X7_thumbs_50, ?_⟩
  refine List.forall_mem_cons.mpr ⟨ok_istore hx hb dd_X7_thumbs_53, ?_⟩
  refine List.forall_mem_cons.mpr ⟨ok_aload_n hx hb rfl dd_X7_thumbs_55, ?_⟩
  refine List.forall_mem_cons.mpr ⟨ok_getR (j := 0) hx hb hts zi_X7 hown hK zc_X7 (by decide) rfl (fun t fl h => by cases h; rfl) (hts _ wd_271) dd_X7_thumbs_56, ?_⟩
  refine List.forall_mem_cons.mpr ⟨ok_getRN (j := 0) hx hb hts zi_X2 hown hK zc_X2 (by decide) rfl (fun t fl h => by cases h; rfl) (va_Nw.use rfl (hN _ nd_201)) dd_X7_thumbs_59, ?_⟩
  refine List.forall_mem_cons.mpr ⟨ok_iload_n hx hb rfl dd_X7_thumbs_62, ?_⟩
  refine List.forall_mem_cons.mpr ⟨ok_iconst hx hb dd_X7_thumbs_63 (by decide), ?_⟩
  refine List.forall_mem_cons.mpr ⟨ok_iload_n hx hb rfl dd_X7_thumbs_64, ?_⟩
  refine List.forall_mem_cons.mpr ⟨ok_callVN (n := 3) zc_X3 rv_X3_tally C0 (h_X3_tally (d + 4) (by omega)) (by decide) wd_615 nd_739 wd_614 wd_34 wd_102 ⟨by decide +kernel, by decide +kernel, by decide +kernel⟩ dd_X7_thumbs_65, ?_⟩
  refine List.forall_mem_cons.mpr ⟨ok_istore hx hb dd_X7_thumbs_68, ?_⟩
  refine List.forall_mem_cons.mpr ⟨ok_iload hx hb dd_X7_thumbs_70, ?_⟩
  refine List.forall_mem_cons.mpr ⟨ok_iload hx hb dd_X7_thumbs_72, ?_⟩
  refine List.forall_mem_cons.mpr ⟨ok_iload_n hx hb rfl dd_X7_thumbs_74, ?_⟩
  refine List.forall_mem_cons.mpr ⟨ok_iconst hx hb dd_X7_thumbs_75 (by decide), ?_⟩
  refine List.forall_mem_cons.mpr ⟨ok_iand hx hb dd_X7_thumbs_76, ?_⟩
  refine List.forall_mem_cons.mpr ⟨ok_if_eq hx hb dd_X7_thumbs_77 (by decide), ?_⟩
  refine List.forall_mem_cons.mpr ⟨ok_iconst hx hb dd_X7_thumbs_80 (by decide), ?_⟩
  refine List.forall_mem_cons.mpr ⟨ok_goto hx hb dd_X7_thumbs_81 (by decide), ?_⟩
  refine List.forall_mem_cons.mpr ⟨ok_iconst hx hb dd_X7_thumbs_84 (by decide), ?_⟩
  refine List.forall_mem_cons.mpr ⟨ok_callS (n := 3) C0 (h_X7_sideWays (d + 4) (by omega)) (by decide) wd_742 wd_740 wd_741 wd_100 ⟨by decide +kernel, by decide +kernel, by decide +kernel⟩ dd_X7_thumbs_85, ?_⟩
  refine List.forall_mem_cons.mpr ⟨ok_iload hx hb dd_X7_thumbs_88, ?_⟩
  refine List.forall_mem_cons.mpr ⟨ok_iload hx hb dd_X7_thumbs_90, ?_⟩
  refine List.forall_mem_cons.mpr ⟨ok_iload_n hx hb rfl dd_X7_thumbs_92, ?_⟩
  refine List.forall_mem_cons.mpr ⟨ok_iconst hx hb dd_X7_thumbs_93 (by decide), ?_⟩
  refine List.forall_mem_cons.mpr ⟨ok_iand hx hb dd_X7_thumbs_94, ?_⟩
  refine List.forall_mem_cons.mpr ⟨ok_if_eq hx hb dd_X7_thumbs_95 (by decide), ?_⟩
  refine List.forall_mem_cons.mpr ⟨ok_iconst hx hb dd_X7_thumbs_98 (by decide), ?_⟩
  refine List.forall_mem_cons.mpr ⟨ok_goto hx hb dd_X7_thumbs_99 (by decide), ?_⟩
  refine List.forall_mem_cons.mpr ⟨ok_iconst hx hb dd_X7_thumbs_102 (by decide), ?_⟩
  refine List.forall_mem_cons.mpr ⟨ok_callS (n := 3) C0 (h_X7_sideWays (d + 4) (by omega)) (by decide) wd_742 wd_740 wd_741 wd_100 ⟨by decide +kernel, by decide +kernel, by decide +kernel⟩ dd_X7_thumbs_103, ?_⟩
  refine List.forall_mem_cons.mpr ⟨ok_lmul hx hb dd_X7_thumbs_106, ?_⟩
  refine List.forall_mem_cons.mpr ⟨ok_lstore hx hb dd_X7_thumbs_107, ?_⟩
  refine List.forall_mem_cons.mpr ⟨ok_aload_n hx hb rfl dd_X7_thumbs_109, ?_⟩
  refine List.forall_mem_cons.mpr ⟨ok_lload hx hb dd_X7_thumbs_110, ?_⟩
  refine List.forall_mem_cons.mpr ⟨ok_iconst hx hb dd_X7_thumbs_112 (by decide), ?_⟩
  refine List.forall_mem_cons.mpr ⟨ok_iload hx hb dd_X7_thumbs_113, ?_⟩
  refine List.forall_mem_cons.mpr ⟨ok_iload hx hb dd_X7_thumbs_115, ?_⟩
  refine List.forall_mem_cons.mpr ⟨ok_iadd hx hb dd_X7_thumbs_117, ?_⟩
  refine List.forall_mem_cons.mpr ⟨ok_callS (n := 2) C0 (h_X7_power (d + 4) (by omega)) (by decide) wd_745 wd_743 wd_744 wd_100 ⟨by decide +kernel, by decide +kernel, by decide +kernel⟩ dd_X7_thumbs_118, ?_⟩
  refine List.forall_mem_cons.mpr ⟨ok_callV (n := 2) zc_X7 rv_X7_keepFraction C0 (h_X7_keepFraction (d + 4) (by omega)) (by decide) wd_749 wd_746 wd_748 wd_53 wd_100 ⟨rfl, by decide +kernel, by decide +kernel, by decide +kernel⟩ dd_X7_thumbs_121, ?_⟩
  refine List.forall_mem_cons.mpr ⟨ok_iconst hx hb dd_X7_thumbs_124 (by decide), ?_⟩
  refine List.forall_mem_cons.mpr ⟨ok_iret hx hb hr hlocks hQ dd_X7_thumbs_125, ?_⟩
  exact fun _ h => absurd h List.not_mem_nil
set_option maxRecDepth 100000 in
theorem vc_X7_thumbs_0 {kd : Nat → Nat} {K : zK} {X : zX} (hX : ∀ (n pc : Nat) (ls : zLS) (st : List zV) (M : zM), zrun (tb_X7_thumbs kd K) [] n X pc ls st M → X pc ls st M) {g : Int32} {y : Int32} {z : Int32} {c : Int32} {M : zM} (hk0 : kd 0 = 1) (hk1 : kd 2 = 3) (hk2 : kd 1 = 2) (h : ∀ v1 : Int32, (v1 = zp (isT g.toInt)) → ((v1 = 0) → ∃ s2 : St, (RpX kd M s2) ∧ ∃ k2 : Nat, (k2 < 3 ∧ (-2 : Int32).toInt = -2 - (k2 : Int)) ∧ ∀ v2 : Int32, (v2 = (-2 : Int32)) → ∀ M2 : zM, (RpX kd M2 (sRf s2 k2)) → (fr9 M M2) → K (some (zI (v2))) M2) ∧ ((¬ v1 = 0) → ∀ v3 : Int32, (v3 = zp (isY y.toInt)) → ((v3 = 0) → ∃ s4 : St, (RpX kd M s4) ∧ ∃ k4 : Nat, (k4 < 3 ∧ (-2 : Int32).toInt = -2 - (k4 : Int)) ∧ ∀ v4 : Int32, (v4 = (-2 : Int32)) → ∀ M4 : zM, (RpX kd M4 (sRf s4 k4)) → (fr9 M M4) → K (some (zI (v4))) M4) ∧ ((¬ v3 = 0) → ∀ v5 : Int32, (v5 = zp ((0 : Int32).toInt ≤ z.toInt ∧ z.toInt ≤ (3 : Int32).toInt)) → ((v5 = 0) → ∃ s6 : St, (RpX kd M s6) ∧ ∃ k6 : Nat, (k6 < 3 ∧ (-2 : Int32).toInt = -2 - (k6 : Int)) ∧ ∀ v6 : Int32, (v6 = (-2 : Int32)) → ∀ M6 : zM, (RpX kd M6 (sRf s6 k6)) → (fr9 M M6) → K (some (zI (v6))) M6) ∧ ((¬ v5 = 0) → ∀ v7 : Int32, (v7 = zp ((0 : Int32).toInt ≤ c.toInt ∧ c.toInt ≤ (4 : Int32).toInt)) → ((¬ v7 = 0) → ∃ a8 : Sk, (RpS (M.1 2) a8) ∧ (0 ≤ y.toInt ∧ y.toInt < 1000000) ∧ ∀ v8 : Int32, (v8.toInt = sk_N a8 g.toInt (1 : Int32).toInt y.toInt) → ∃ a9 : Sk, (RpS (M.1 2) a9) ∧ (0 ≤ y.toInt ∧ y.toInt < 1000000) ∧ ∀ v9 : Int32, (v9.toInt = sk_N a9 g.toInt (0 : Int32).toInt y.toInt) → (((z &&& (1 : Int32)) = 0) → (0 ≤ c.toInt ∧ c.toInt ≤ 4) ∧ (0 ≤ v8.toInt ∧ v8.toInt ≤ 24) ∧ ∀ v10 : Int64, (v10.toInt = sdw c.toInt v8.toInt (decide (¬ (0 : Int32) = 0))) → (((z &&& (2 : Int32)) = 0) → (0 ≤ c.toInt ∧ c.toInt ≤ 4) ∧ (0 ≤ v9.toInt ∧ v9.toInt ≤ 24) ∧ ∀ v11 : Int64, (v11.toInt = sdw c.toInt v9.toInt (decide (¬ (0 : Int32) = 0))) → (0 ≤ (4 : Int32).toInt ∧ (4 : Int32).toInt ≤ 4) ∧ (0 ≤ (v8 + v9).toInt ∧ (v8 + v9).toInt ≤ 24) ∧ ∀ v12 : Int64, (v12.toInt = pwr (4 : Int32).toInt (v8 + v9).toInt) → (KdX kd) ∧ ∃ s13 : St, (RpX kd M s13) ∧ ((0 ≤ (v10 * v11).toInt ∧ (v10 * v11).toInt ≤ v12.toInt) ∧ 0 < v12.toInt ∧ v12.toInt ≤ 281474976710656) ∧ ∀ M13 : zM, (RpX kd M13 (s13.1, s13.2.1, s13.2.2.1, frc (v10 * v11).toInt v12.toInt, s13.2.2.2.2)) → (fr9 M M13) → K (some (zI ((1 : Int32)))) M13) ∧ ((¬ (z &&& (2 : Int32)) = 0) → (0 ≤ c.toInt ∧ c.toInt ≤ 4) ∧ (0 ≤ v9.toInt ∧ v9.toInt ≤ 24) ∧ ∀ v14 : Int64, (v14.toInt = sdw c.toInt v9.toInt (decide (¬ (1 : Int32) = 0))) → (0 ≤ (4 : Int32).toInt ∧ (4 : Int32).toInt ≤ 4) ∧ (0 ≤ (v8 + v9).toInt ∧ (v8 + v9).toInt ≤ 24) ∧ ∀ v15 : Int64, (v15.toInt = pwr (4 : Int32).toInt (v8 + v9).toInt) → (KdX kd) ∧ ∃ s16 : St, (RpX kd M s16) ∧ ((0 ≤ (v10 * v14).toInt ∧ (v10 * v14).toInt ≤ v15.toInt) ∧ 0 < v15.toInt ∧ v15.toInt ≤ 281474976710656) ∧ ∀ M16 : zM, (RpX kd M16 (s16.1, s16.2.1, s16.2.2.1, frc (v10 * v14).toInt v15.toInt, s16.2.2.2.2)) → (fr9 M M16) → K (some (zI ((1 : Int32)))) M16)) ∧ ((¬ (z &&& (1 : Int32)) = 0) → (0 ≤ c.toInt ∧ c.toInt ≤ 4) ∧ (0 ≤ v8.toInt ∧ v8.toInt ≤ 24) ∧ ∀ v17 : Int64, (v17.toInt = sdw c.toInt v8.toInt (decide (¬ (1 : Int32) = 0))) → (((z &&& (2 : Int32)) = 0) → (0 ≤ c.toInt ∧ c.toInt ≤ 4) ∧ (0 ≤ v9.toInt ∧ v9.toInt ≤ 24) ∧ ∀ v18 : Int64, (v18.toInt = sdw c.toInt v9.toInt (decide (¬ (0 : Int32) = 0))) → (0 ≤ (4 : Int32).toInt ∧ (4 : Int32).toInt ≤ 4) ∧ (0 ≤ (v8 + v9).toInt ∧ (v8 + v9).toInt ≤ 24) ∧ ∀ v19 : Int64, (v19.toInt = pwr (4 : Int32).toInt (v8 + v9).toInt) → (KdX kd) ∧ ∃ s20 : St, (RpX kd M s20) ∧ ((0 ≤ (v17 * v18).toInt ∧ (v17 * v18).toInt ≤ v19.toInt) ∧ 0 < v19.toInt ∧ v19.toInt ≤ 281474976710656) ∧ ∀ M20 : zM, (RpX kd M20 (s20.1, s20.2.1, s20.2.2.1, frc (v17 * v18).toInt v19.toInt, s20.2.2.2.2)) → (fr9 M M20) → K (some (zI ((1 : Int32)))) M20) ∧ ((¬ (z &&& (2 : Int32)) = 0) → (0 ≤ c.toInt ∧ c.toInt ≤ 4) ∧ (0 ≤ v9.toInt ∧ v9.toInt ≤ 24) ∧ ∀ v21 : Int64, (v21.toInt = sdw c.toInt v9.toInt (decide (¬ (1 : Int32) = 0))) → (0 ≤ (4 : Int32).toInt ∧ (4 : Int32).toInt ≤ 4) ∧ (0 ≤ (v8 + v9).toInt ∧ (v8 + v9).toInt ≤ 24) ∧ ∀ v22 : Int64, (v22.toInt = pwr (4 : Int32).toInt (v8 + v9).toInt) → (KdX kd) ∧ ∃ s23 : St, (RpX kd M s23) ∧ ((0 ≤ (v17 * v21).toInt ∧ (v17 * v21).toInt ≤ v22.toInt) ∧ 0 < v22.toInt ∧ v22.toInt ≤ 281474976710656) ∧ ∀ M23 : zM, (RpX kd M23 (s23.1, s23.2.1, s23.2.2.1, frc (v17 * v21).toInt v22.toInt, s23.2.2.2.2)) → (fr9 M M23) → K (some (zI ((1 : Int32)))) M23))) ∧ ((v7 = 0) → ∃ s24 : St, (RpX kd M s24) ∧ ∃ k24 : Nat, (k24 < 3 ∧ (-2 : Int32).toInt = -2 - (k24 : Int)) ∧ ∀ v24 : Int32, (v24 = (-2 : Int32)) → ∀ M24 : zM, (RpX kd M24 (sRf s24 k24)) → (fr9 M M24) → K (some (zI (v24))) M24))))) : X 0 [some (zR 0 0), some (zI (g)), some (zI (y)), some (zI (z)), some (zI (c)), none, none, none, none] [] M := hX 63 0 _ [] M (show ∀ v1 : Int32, (v1 = zp (isT g.toInt)) → ((v1 = 0) → (kd 0 = 1) ∧ ∃ s2 : St, (RpX kd M s2) ∧ ∃ k2 : Nat, (k2 < 3 ∧ (-2 : Int32).toInt = -2 - (k2 : Int)) ∧ ∀ v2 : Int32, (v2 = (-2 : Int32)) → ∀ M2 : zM, (RpX kd M2 (sRf s2 k2)) → (fr9 M M2) → K (some (zI (v2))) M2) ∧ ((¬ v1 = 0) → ∀ v3 : Int32, (v3 = zp (isY y.toInt)) → ((v3 = 0) → (kd 0 = 1) ∧ ∃ s4 : St, (RpX kd M s4) ∧ ∃ k4 : Nat, (k4 < 3 ∧ (-2 : Int32).toInt = -2 - (k4 : Int)) ∧ ∀ v4 : Int32, (v4 = (-2 : Int32)) → ∀ M4 : zM, (RpX kd M4 (sRf s4 k4)) → (fr9 M M4) → K (some (zI (v4))) M4) ∧ ((¬ v3 = 0) → ∀ v5 : Int32, (v5 = zp ((0 : Int32).toInt ≤ z.toInt ∧ z.toInt ≤ (3 : Int32).toInt)) → ((v5 = 0) → (kd 0 = 1) ∧ ∃ s6 : St, (RpX kd M s6) ∧ ∃ k6 : Nat, (k6 < 3 ∧ (-2 : Int32).toInt = -2 - (k6 : Int)) ∧ ∀ v6 : Int32, (v6 = (-2 : Int32)) → ∀ M6 : zM, (RpX kd M6 (sRf s6 k6)) → (fr9 M M6) → K (some (zI (v6))) M6) ∧ ((¬ v5 = 0) → ∀ v7 : Int32, (v7 = zp ((0 : Int32).toInt ≤ c.toInt ∧ c.toInt ≤ (4 : Int32).toInt)) → ((¬ v7 = 0) → (kd 0 = 1) ∧ (kd 1 = 2) ∧ (kd 2 = 3) ∧ ∃ a8 : Sk, (RpS (M.1 2) a8) ∧ (0 ≤ y.toInt ∧ y.toInt < 1000000) ∧ ∀ v8 : Int32, (v8.toInt = sk_N a8 g.toInt (1 : Int32).toInt y.toInt) → (kd 0 = 1) ∧ (kd 1 = 2) ∧ (kd 2 = 3) ∧ ∃ a9 : Sk, (RpS (M.1 2) a9) ∧ (0 ≤ y.toInt ∧ y.toInt < 1000000) ∧ ∀ v9 : Int32, (v9.toInt = sk_N a9 g.toInt (0 : Int32).toInt y.toInt) → (((z &&& (1 : Int32)) = 0) → (0 ≤ c.toInt ∧ c.toInt ≤ 4) ∧ (0 ≤ v8.toInt ∧ v8.toInt ≤ 24) ∧ ∀ v10 : Int64, (v10.toInt = sdw c.toInt v8.toInt (decide (¬ (0 : Int32) = 0))) → (((z &&& (2 : Int32)) = 0) → (0 ≤ c.toInt ∧ c.toInt ≤ 4) ∧ (0 ≤ v9.toInt ∧ v9.toInt ≤ 24) ∧ ∀ v11 : Int64, (v11.toInt = sdw c.toInt v9.toInt (decide (¬ (0 : Int32) = 0))) → (0 ≤ (4 : Int32).toInt ∧ (4 : Int32).toInt ≤ 4) ∧ (0 ≤ (v8 + v9).toInt ∧ (v8 + v9).toInt ≤ 24) ∧ ∀ v12 : Int64, (v12.toInt = pwr (4 : Int32).toInt (v8 + v9).toInt) → (kd 0 = 1) ∧ (KdX kd) ∧ ∃ s13 : St, (RpX kd M s13) ∧ ((0 ≤ (v10 * v11).toInt ∧ (v10 * v11).toInt ≤ v12.toInt) ∧ 0 < v12.toInt ∧ v12.toInt ≤ 281474976710656) ∧ ∀ M13 : zM, (RpX kd M13 (s13.1, s13.2.1, s13.2.2.1, frc (v10 * v11).toInt v12.toInt, s13.2.2.2.2)) → (fr9 M M13) → K (some (zI ((1 : Int32)))) M13) ∧ ((¬ (z &&& (2 : Int32)) = 0) → (0 ≤ c.toInt ∧ c.toInt ≤ 4) ∧ (0 ≤ v9.toInt ∧ v9.toInt ≤ 24) ∧ ∀ v14 : Int64, (v14.toInt = sdw c.toInt v9.toInt (decide (¬ (1 : Int32) = 0))) → (0 ≤ (4 : Int32).toInt ∧ (4 : Int32).toInt ≤ 4) ∧ (0 ≤ (v8 + v9).toInt ∧ (v8 + v9).toInt ≤ 24) ∧ ∀ v15 : Int64, (v15.toInt = pwr (4 : Int32).toInt (v8 + v9).toInt) → (kd 0 = 1) ∧ (KdX kd) ∧ ∃ s16 : St, (RpX kd M s16) ∧ ((0 ≤ (v10 * v14).toInt ∧ (v10 * v14).toInt ≤ v15.toInt) ∧ 0 < v15.toInt ∧ v15.toInt ≤ 281474976710656) ∧ ∀ M16 : zM, (RpX kd M16 (s16.1, s16.2.1, s16.2.2.1, frc (v10 * v14).toInt v15.toInt, s16.2.2.2.2)) → (fr9 M M16) → K (some (zI ((1 : Int32)))) M16)) ∧ ((¬ (z &&& (1 : Int32)) = 0) → (0 ≤ c.toInt ∧ c.toInt ≤ 4) ∧ (0 ≤ v8.toInt ∧ v8.toInt ≤ 24) ∧ ∀ v17 : Int64, (v17.toInt = sdw c.toInt v8.toInt (decide (¬ (1 : Int32) = 0))) → (((z &&& (2 : Int32)) = 0) → (0 ≤ c.toInt ∧ c.toInt ≤ 4) ∧ (0 ≤ v9.toInt ∧ v9.toInt ≤ 24) ∧ ∀ v18 : Int64, (v18.toInt = sdw c.toInt v9.toInt (decide (¬ (0 : Int32) = 0))) → (0 ≤ (4 : Int32).toInt ∧ (4 : Int32).toInt ≤ 4) ∧ (0 ≤ (v8 + v9).toInt ∧ (v8 + v9).toInt ≤ 24) ∧ ∀ v19 : Int64, (v19.toInt = pwr (4 : Int32).toInt (v8 + v9).toInt) → (kd 0 = 1) ∧ (KdX kd) ∧ ∃ s20 : St, (RpX kd M s20) ∧ ((0 ≤ (v17 * v18).toInt ∧ (v17 * v18).toInt ≤ v19.toInt) ∧ 0 < v19.toInt ∧ v19.toInt ≤ 281474976710656) ∧ ∀ M20 : zM, (RpX kd M20 (s20.1, s20.2.1, s20.2.2.1, frc (v17 * v18).toInt v19.toInt, s20.2.2.2.2)) → (fr9 M M20) → K (some (zI ((1 : Int32)))) M20) ∧ ((¬ (z &&& (2 : Int32)) = 0) → (0 ≤ c.toInt ∧ c.toInt ≤ 4) ∧ (0 ≤ v9.toInt ∧ v9.toInt ≤ 24) ∧ ∀ v21 : Int64, (v21.toInt = sdw c.toInt v9.toInt (decide (¬ (1 : Int32) = 0))) → (0 ≤ (4 : Int32).toInt ∧ (4 : Int32).toInt ≤ 4) ∧ (0 ≤ (v8 + v9).toInt ∧ (v8 + v9).toInt ≤ 24) ∧ ∀ v22 : Int64, (v22.toInt = pwr (4 : Int32).toInt (v8 + v9).toInt) → (kd 0 = 1) ∧ (KdX kd) ∧ ∃ s23 : St, (RpX kd M s23) ∧ ((0 ≤ (v17 * v21).toInt ∧ (v17 * v21).toInt ≤ v22.toInt) ∧ 0 < v22.toInt ∧ v22.toInt ≤ 281474976710656) ∧ ∀ M23 : zM, (RpX kd M23 (s23.1, s23.2.1, s23.2.2.1, frc (v17 * v21).toInt v22.toInt, s23.2.2.2.2)) → (fr9 M M23) → K (some (zI ((1 : Int32)))) M23))) ∧ ((v7 = 0) → (kd 0 = 1) ∧ ∃ s24 : St, (RpX kd M s24) ∧ ∃ k24 : Nat, (k24 < 3 ∧ (-2 : Int32).toInt = -2 - (k24 : Int)) ∧ ∀ v24 : Int32, (v24 = (-2 : Int32)) → ∀ M24 : zM, (RpX kd M24 (sRf s24 k24)) → (fr9 M M24) → K (some (zI (v24))) M24)))) from fun v1 => have h := h v1; fun q => have h := h q; ⟨fun q => have h := h.1 q; ⟨hk0, h.elim (fun s2 h => ⟨s2, ⟨h.1, have h := h.2; h.elim (fun k2 h => ⟨k2, ⟨h.1, have h := h.2; fun v2 => have h := h v2; fun q => have h := h q; fun M2 => have h := h M2; fun q => have h := h q; fun q => have h := h q; h⟩⟩)⟩⟩)⟩, fun q => have h := h.2 q; fun v3 => have h := h v3; fun q => have h := h q; ⟨fun q => have h := h.1 q; ⟨hk0, h.elim (fun s4 h => ⟨s4, ⟨h.1, have h := h.2; h.elim (fun k4 h => ⟨k4, ⟨h.1, have h := h.2; fun v4 => have h := h v4; fun q => have h := h q; fun M4 => have h := h M4; fun q => have h := h q; fun q => have h := h q; h⟩⟩)⟩⟩)⟩, fun q => have h := h.2 q; fun v5 => have h := h v5; fun q => have h := h q; ⟨fun q => have h := h.1 q; ⟨hk0, h.elim (fun s6 h => ⟨s6, ⟨h.1, have h := h.2; h.elim (fun k6 h => ⟨k6, ⟨h.1, have h := h.2; fun v6 => have h := h v6; fun q => have h := h q; fun M6 => have h := h M6; fun q => have h := h q; fun q => have h := h q; h⟩⟩)⟩⟩)⟩, fun q => have h := h.2 q; fun v7 => have h := h v7; fun q => have h := h q; ⟨fun q => have h := h.1 q; ⟨hk0, ⟨hk2, ⟨hk1, h.elim (fun a8 h => ⟨a8, ⟨h.1, have h := h.2; ⟨h.1, have h := h.2; fun v8 => have h := h v8; fun q => have h := h q; ⟨hk0, ⟨hk2, ⟨hk1, h.elim (fun a9 h => ⟨a9, ⟨h.1, have h := h.2; ⟨h.1, have h := h.2; fun v9 => have h := h v9; fun q => have h := h q; ⟨fun q => have h := h.1 q; ⟨h.1, have h := h.2; ⟨h.1, have h := h.2; fun v10 => have h := h v10; fun q => have h := h q; ⟨fun q => have h := h.1 q; ⟨h.1, have h := h.2; ⟨h.1, have h := h.2; fun v11 => have h := h v11; fun q => have h := h q; ⟨h.1, have h := h.2; ⟨h.1, have h := h.2; fun v12 => have h := h v12; fun q => have h := h q; ⟨hk0, ⟨h.1, have h := h.2; h.elim (fun s13 h => ⟨s13, ⟨h.1, have h := h.2; ⟨h.1, have h := h.2; fun M13 => have h := h M13; fun q => have h := h q; fun q => have h := h q; h⟩⟩⟩)⟩⟩⟩⟩⟩⟩, fun q => have h := h.2 q; ⟨h.1, have h := h.2; ⟨h.1, have h := h.2; fun v14 => have h := h v14; fun q => have h := h q; ⟨h.1, have h := h.2; ⟨h.1, have h := h.2; fun v15 => have h := h v15; fun q => have h := h q; ⟨hk0, ⟨h.1, have h := h.2; h.elim (fun s16 h => ⟨s16, ⟨h.1, have h := h.2; ⟨h.1, have h := h.2; fun M16 => have h := h M16; fun q => have h := h q; fun q => have h := h q; h⟩⟩⟩)⟩⟩⟩⟩⟩⟩⟩⟩⟩, fun q => have h := h.2 q; ⟨h.1, have h := h.2; ⟨h.1, have h := h.2; fun v17 => have h := h v17; fun q => have h := h q; ⟨fun q => have h := h.1 q; ⟨h.1, have h := h.2; ⟨h.1, have h := h.2; fun v18 => have h := h v18; fun q => have h := h q; ⟨h.1, have h := h.2; ⟨h.1, have h := h.2; fun v19 => have h := h v19; fun q => have h := h q; ⟨hk0, ⟨h.1, have h := h.2; h.elim (fun s20 h => ⟨s20, ⟨h.1, have h := h.2; ⟨h.1, have h := h.2; fun M20 => have h := h M20; fun q => have h := h q; fun q => have h := h q; h⟩⟩⟩)⟩⟩⟩⟩⟩⟩, fun q => have h := h.2 q; ⟨h.1, have h := h.2; ⟨h.1, have h := h.2; fun v21 => have h := h v21; fun q => have h := h q; ⟨h.1, have h := h.2; ⟨h.1, have h := h.2; fun v22 => have h := h v22; fun q => have h := h q; ⟨hk0, ⟨h.1, have h := h.2; h.elim (fun s23 h => ⟨s23, ⟨h.1, have h := h.2; ⟨h.1, have h := h.2; fun M23 => have h := h M23; fun q => have h := h q; fun q => have h := h q; h⟩⟩⟩)⟩⟩⟩⟩⟩⟩⟩⟩⟩⟩⟩⟩⟩)⟩⟩⟩⟩⟩⟩)⟩⟩⟩, fun q => have h := h.2 q; ⟨hk0, h.elim (fun s24 h => ⟨s24, ⟨h.1, have h := h.2; h.elim (fun k24 h => ⟨k24, ⟨h.1, have h := h.2; fun v24 => have h := h v24; fun q => have h := h q; fun M24 => have h := h M24; fun q => have h := h q; fun q => have h := h q; h⟩⟩)⟩⟩)⟩⟩⟩⟩⟩)
def sp_X7_centuries : zSpec := fun kd as M K => match as with
  | [.inr (.inr (.inl (0, 0))), .inl x, .inl n] => (kd 0 = 1) ∧ (KdX kd) ∧ ∃ s : St, (RpX kd M s) ∧ ∀ v : Int32, (v.toInt = (ev_centuries s x.toInt n.toInt).1) → ∀ M' : zM, (RpX kd M' (ev_centuries s x.toInt n.toInt).2) → (fr9 M M') → K (some (.inl v)) M'
  | _ => False
theorem rv_X7_centuries : zrv sp_X7_centuries 1 2 := by
  intro kd as M K h
  unfold sp_X7_centuries at h
  split at h
  · exact ⟨_, _, rfl, h.1⟩
  · exact h.elim
theorem dd_X7_centuries_0 : decode cX7_centuries 0 = .ok (.iload_n 1, 1) := by decide +kernel
theorem dd_X7_centuries_1 : decode cX7_centuries 1 = .ok (.iconst 0, 1) := by decide +kernel
theorem dd_X7_centuries_2 : decode cX7_centuries 2 = .ok (.ldc 220, 2) := by decide +kernel
theorem dd_X7_centuries_4 : decode cX7_centuries 4 = .ok (.invokestatic 66, 3) := by decide +kernel
theorem dd_X7_centuries_7 : decode cX7_centuries 7 = .ok (.ifCond .eq 13, 3) := by decide +kernel
theorem dd_X7_centuries_10 : decode cX7_centuries 10 = .ok (.iload_n 2, 1) := by decide +kernel
theorem dd_X7_centuries_11 : decode cX7_centuries 11 = .ok (.iconst 0, 1) := by decide +kernel
theorem dd_X7_centuries_12 : decode cX7_centuries 12 = .ok (.bipush 30, 2) := by decide +kernel
theorem dd_X7_centuries_14 : decode cX7_centuries 14 = .ok (.invokestatic 66, 3) := by decide +kernel
theorem dd_X7_centuries_17 : decode cX7_centuries 17 = .ok (.ifCond .ne 10, 3) := by decide +kernel
theorem dd_X7_centuries_20 : decode cX7_centuries 20 = .ok (.aload_n 0, 1) := by decide +kernel
theorem dd_X7_centuries_21 : decode cX7_centuries 21 = .ok (.bipush (-2), 2) := by decide +kernel
theorem dd_X7_centuries_23 : decode cX7_centuries 23 = .ok (.invokevirtual 73, 3) := by decide +kernel
theorem dd_X7_centuries_26 : decode cX7_centuries 26 = .ok (.ireturn, 1) := by decide +kernel
theorem dd_X7_centuries_27 : decode cX7_centuries 27 = .ok (.aload_n 0, 1) := by decide +kernel
theorem dd_X7_centuries_28 : decode cX7_centuries 28 = .ok (.getfield 23, 3) := by decide +kernel
theorem dd_X7_centuries_31 : decode cX7_centuries 31 = .ok (.aload_n 0, 1) := by decide +kernel
theorem dd_X7_centuries_32 : decode cX7_centuries 32 = .ok (.getfield 12, 3) := by decide +kernel
theorem dd_X7_centuries_35 : decode cX7_centuries 35 = .ok (.getfield 52, 3) := by decide +kernel
theorem dd_X7_centuries_38 : decode cX7_centuries 38 = .ok (.invokevirtual 130, 3) := by decide +kernel
theorem dd_X7_centuries_41 : decode cX7_centuries 41 = .ok (.iload_n 1, 1) := by decide +kernel
theorem dd_X7_centuries_42 : decode cX7_centuries 42 = .ok (.i2l, 1) := by decide +kernel
theorem dd_X7_centuries_43 : decode cX7_centuries 43 = .ok (.lstore_n 3, 1) := by decide +kernel
theorem dd_X7_centuries_44 : decode cX7_centuries 44 = .ok (.iconst 0, 1) := by decide +kernel
theorem dd_X7_centuries_45 : decode cX7_centuries 45 = .ok (.istore 5, 2) := by decide +kernel
theorem dd_X7_centuries_47 : decode cX7_centuries 47 = .ok (.iload 5, 2) := by decide +kernel
theorem dd_X7_centuries_49 : decode cX7_centuries 49 = .ok (.iload_n 2, 1) := by decide +kernel
theorem dd_X7_centuries_50 : decode cX7_centuries 50 = .ok (.if_icmp .ge 53, 3) := by decide +kernel
theorem dd_X7_centuries_53 : decode cX7_centuries 53 = .ok (.lload_n 3, 1) := by decide +kernel
theorem dd_X7_centuries_54 : decode cX7_centuries 54 = .ok (.ldc2_w 221, 3) := by decide +kernel
theorem dd_X7_centuries_57 : decode cX7_centuries 57 = .ok (.lmul, 1) := by decide +kernel
theorem dd_X7_centuries_58 : decode cX7_centuries 58 = .ok (.ldc2_w 223, 3) := by decide +kernel
theorem dd_X7_centuries_61 : decode cX7_centuries 61 = .ok (.ladd, 1) := by decide +kernel
theorem dd_X7_centuries_62 : decode cX7_centuries 62 = .ok (.ldc2_w 225, 3) := by decide +kernel
theorem dd_X7_centuries_65 : decode cX7_centuries 65 = .ok (.lrem, 1) := by decide +kernel
theorem dd_X7_centuries_66 : decode cX7_centuries 66 = .ok (.lstore_n 3, 1) := by decide +kernel
theorem dd_X7_centuries_67 : decode cX7_centuries 67 = .ok (.aload_n 0, 1) := by decide +kernel
theorem dd_X7_centuries_68 : decode cX7_centuries 68 = .ok (.getfield 23, 3) := by decide +kernel
theorem dd_X7_centuries_71 : decode cX7_centuries 71 = .ok (.lload_n 3, 1) := by decide +kernel
theorem dd_X7_centuries_72 : decode cX7_centuries 72 = .ok (.ldc2_w 227, 3) := by decide +kernel
theorem dd_X7_centuries_75 : decode cX7_centuries 75 = .ok (.ldiv, 1) := by decide +kernel
theorem dd_X7_centuries_76 : decode cX7_centuries 76 = .ok (.l2i, 1) := by decide +kernel
theorem dd_X7_centuries_77 : decode cX7_centuries 77 = .ok (.invokevirtual 229, 3) := by decide +kernel
theorem dd_X7_centuries_80 : decode cX7_centuries 80 = .ok (.aload_n 0, 1) := by decide +kernel
theorem dd_X7_centuries_81 : decode cX7_centuries 81 = .ok (.getfield 23, 3) := by decide +kernel
theorem dd_X7_centuries_84 : decode cX7_centuries 84 = .ok (.lload_n 3, 1) := by decide +kernel
theorem dd_X7_centuries_85 : decode cX7_centuries 85 = .ok (.ldc2_w 232, 3) := by decide +kernel
theorem dd_X7_centuries_88 : decode cX7_centuries 88 = .ok (.ldiv, 1) := by decide +kernel
theorem dd_X7_centuries_89 : decode cX7_centuries 89 = .ok (.ldc2_w 234, 3) := by decide +kernel
theorem dd_X7_centuries_92 : decode cX7_centuries 92 = .ok (.lrem, 1) := by decide +kernel
theorem dd_X7_centuries_93 : decode cX7_centuries 93 = .ok (.l2i, 1) := by decide +kernel
theorem dd_X7_centuries_94 : decode cX7_centuries 94 = .ok (.invokevirtual 104, 3) := by decide +kernel
theorem dd_X7_centuries_97 : decode cX7_centuries 97 = .ok (.iinc 5 1, 3) := by decide +kernel
theorem dd_X7_centuries_100 : decode cX7_centuries 100 = .ok (.goto (-53), 3) := by decide +kernel
theorem dd_X7_centuries_103 : decode cX7_centuries 103 = .ok (.aload_n 0, 1) := by decide +kernel
theorem dd_X7_centuries_104 : decode cX7_centuries 104 = .ok (.getfield 23, 3) := by decide +kernel
theorem dd_X7_centuries_107 : decode cX7_centuries 107 = .ok (.aload_n 0, 1) := by decide +kernel
theorem dd_X7_centuries_108 : decode cX7_centuries 108 = .ok (.getfield 23, 3) := by decide +kernel
theorem dd_X7_centuries_111 : decode cX7_centuries 111 = .ok (.getfield 100, 3) := by decide +kernel
theorem dd_X7_centuries_114 : decode cX7_centuries 114 = .ok (.invokevirtual 236, 3) := by decide +kernel
theorem dd_X7_centuries_117 : decode cX7_centuries 117 = .ok (.ireturn, 1) := by decide +kernel
def tb_X7_centuries (kd : Nat → Nat) (K : zK) : zTab := [(0, zt_iload 1 1), (1, zt_const (zI 0) 2), (2, zt_const (zI 999999) 4), (4, zt_call kd sp_X7_within 3 7), (7, zt_if (fun x => x = 0) (fun x => ¬ x = 0) 20 10), (10, zt_iload 2 11), (11, zt_const (zI 0) 12), (12, zt_const (zI 30) 14), (14, zt_call kd sp_X7_within 3 17), (17, zt_if (fun x => ¬ x = 0) (fun x => x = 0) 27 20), (20, zt_aload 0 21), (21, zt_const (zI (-2)) 23), (23, zt_call kd sp_X7_refuse 2 26), (26, zt_iret K), (27, zt_aload 0 28), (28, zt_getR kd 1 5 0 31), (31, zt_aload 0 32), (32, zt_getR kd 1 1 0 35), (35, zt_getR kd 2 1 0 38), (38, zt_call kd sp_X3_take 2 41), (41, zt_iload 1 42), (42, zt_un (fun x => zL x.toInt64) 43), (43, zt_lstore 3 44), (44, zt_const (zI 0) 45), (45, zt_istore 5 47), (47, zt_iload 5 49), (49, zt_iload 2 50), (50, zt_icmp (fun x y => y ≤ x) (fun x y => ¬ y ≤ x) 103 53), (53, zt_lload 3 54), (54, zt_const (zL 1103515245) 57), (57, zt_binL (fun x y => x * y) 58), (58, zt_const (zL 12345) 61), (61, zt_binL (fun x y => x + y) 62), (62, zt_const (zL 2147483648) 65), (65, zt_divL (fun x y => x - x / y * y) 66), (66, zt_lstore 3 67), (67, zt_aload 0 68), (68, zt_getR kd 1 5 0 71), (71, zt_lload 3 72), (72, zt_const (zL 65536) 75), (75, zt_divL (fun x y => x / y) 76), (76, zt_unL (fun x => zI x.toInt32) 77), (77, zt_call kd sp_X3_chance 2 80), (80, zt_aload 0 81), (81, zt_getR kd 1 5 0 84), (84, zt_lload 3 85), (85, zt_const (zL 1048576) 88), (88, zt_divL (fun x y => x / y) 89), (89, zt_const (zL 50) 92), (92, zt_divL (fun x y => x - x / y * y) 93), (93, zt_unL (fun x => zI x.toInt32) 94), (94, zt_call kd sp_X3_pass 2 97), (97, zt_iinc 5 1 100), (100, zt_goto 47), (103, zt_aload 0 104), (104, zt_getR kd 1 5 0 107), (107, zt_aload 0 108), (108, zt_getR kd 1 5 0 111), (111, zt_getI kd 3 6 114), (114, zt_call kd sp_X3_quarrelsIn 2 117), (117, zt_iret K)]
set_option maxRecDepth 20000 in
theorem tk_X7_centuries (d : Nat) (h_X7_within : zMS 1 yX7_within cX7_within 3 (some .boolean) sp_X7_within) (h_X7_refuse : zMS 2 yX7_refuse cX7_refuse 3 (some .int) sp_X7_refuse) (h_X3_take : zMS 1 yX3_take cX3_take 2 none sp_X3_take) (h_X3_chance : zMS 4 yX3_chance cX3_chance 4 none sp_X3_chance) (h_X3_pass : zMS 1 yX3_pass cX3_pass 2 none sp_X3_pass) (h_X3_quarrelsIn : zMS 6 yX3_quarrelsIn cX3_quarrelsIn 4 (some .int) sp_X3_quarrelsIn) : zTrue RX7 cX7_centuries 6 (some .int) (d + 7) (fun kd K => tb_X7_centuries kd K) := by
  intro p l e R s m args below meth c D cy A ad bl Qm K C0 hr hlocks hQ
  obtain ⟨hx, hb, hml, hown, hts, hK, hD, hA0, hN, hE, ⟨hR1, hR2⟩, hc1, hc2⟩ := id C0
  unfold tb_X7_centuries
  refine List.forall_mem_cons.mpr ⟨ok_iload_n hx hb rfl dd_X7_centuries_0, ?_⟩
  refine List.forall_mem_cons.mpr ⟨ok_iconst hx hb dd_X7_centuries_1 (by decide), ?_⟩
  refine List.forall_mem_cons.mpr ⟨ok_ldc hx hb hown (hts _ wd_754) dd_X7_centuries_2, ?_⟩
  refine List.forall_mem_cons.mpr ⟨ok_callS (n := 3) C0 (h_X7_within (d + 6) (by omega)) (by decide) wd_321 wd_319 wd_320 wd_100 ⟨by decide +kernel, by decide +kernel, by decide +kernel⟩ dd_X7_centuries_4, ?_⟩
  refine List.forall_mem_cons.mpr ⟨ok_if_eq hx hb dd_X7_centuries_7 (by decide), ?_⟩
  refine List.forall_mem_cons.mpr ⟨ok_iload_n hx hb rfl dd_X7_centuries_10, ?_⟩
  refine List.forall_mem_cons.mpr ⟨ok_iconst hx hb dd_X7_centuries_11 (by decide), ?_⟩
  refine List.forall_mem_cons.mpr ⟨ok_bipush hx hb dd_X7_centuries_12 (by decide), ?_⟩
  refine List.forall_mem_cons.mpr ⟨ok_callS (n := 3) C0 (h_X7_within (d + 6) (by omega)) (by decide) wd_321 wd_319 wd_320 wd_100 ⟨by decide +kernel, by decide +kernel, by decide +kernel⟩ dd_X7_centuries_14, ?_⟩
  refine List.forall_mem_cons.mpr ⟨ok_if_ne hx hb dd_X7_centuries_17 (by decide), ?_⟩
  refine List.forall_mem_cons.mpr ⟨ok_aload_n hx hb rfl dd_X7_centuries_20, ?_⟩
  refine List.forall_mem_cons.mpr ⟨ok_bipush hx hb dd_X7_centuries_21 (by decide), ?_⟩
  refine List.forall_mem_cons.mpr ⟨ok_callV (n := 1) zc_X7 rv_X7_refuse C0 (h_X7_refuse (d + 6) (by omega)) (by decide) wd_328 wd_325 wd_327 wd_3 wd_100 ⟨rfl, by decide +kernel, by decide +kernel, by decide +kernel⟩ dd_X7_centuries_23, ?_⟩
  refine List.forall_mem_cons.mpr ⟨ok_iret hx hb hr hlocks hQ dd_X7_centuries_26, ?_⟩
  refine List.forall_mem_cons.mpr ⟨ok_aload_n hx hb rfl dd_X7_centuries_27, ?_⟩
  refine List.forall_mem_cons.mpr ⟨ok_getR (j := 2) hx hb hts zi_X7 hown hK zc_X7 (by decide) rfl (fun t fl h => by cases h; rfl) (hts _ wd_273) dd_X7_centuries_28, ?_⟩
  refine List.forall_mem_cons.mpr ⟨ok_aload_n hx hb rfl dd_X7_centuries_31, ?_⟩
  refine List.forall_mem_cons.mpr ⟨ok_getR (j := 0) hx hb hts zi_X7 hown hK zc_X7 (by decide) rfl (fun t fl h => by cases h; rfl) (hts _ wd_271) dd_X7_centuries_32, ?_⟩
  refine List.forall_mem_cons.mpr ⟨ok_getRN (j := 0) hx hb hts zi_X2 hown hK zc_X2 (by decide) rfl (fun t fl h => by cases h; rfl) (va_Nw.use rfl (hN _ nd_201)) dd_X7_centuries_35, ?_⟩
  refine List.forall_mem_cons.mpr ⟨ok_callVN (n := 1) zc_X3 rv_X3_take C0 (h_X3_take (d + 6) (by omega)) (by decide) wd_525 nd_522 wd_524 wd_22 wd_102 ⟨by decide +kernel, by decide +kernel, by decide +kernel⟩ dd_X7_centuries_38, ?_⟩
  refine List.forall_mem_cons.mpr ⟨ok_iload_n hx hb rfl dd_X7_centuries_41, ?_⟩
  refine List.forall_mem_cons.mpr ⟨ok_i2l hx hb dd_X7_centuries_42, ?_⟩
  refine List.forall_mem_cons.mpr ⟨ok_lstore_n hx hb rfl dd_X7_centuries_43, ?_⟩
  refine List.forall_mem_cons.mpr ⟨ok_iconst hx hb dd_X7_centuries_44 (by decide), ?_⟩
  refine List.forall_mem_cons.mpr ⟨ok_istore hx hb dd_X7_centuries_45, ?_⟩
  refine List.forall_mem_cons.mpr ⟨ok_iload hx hb dd_X7_centuries_47, ?_⟩
  refine List.forall_mem_cons.mpr ⟨ok_iload_n hx hb rfl dd_X7_centuries_49, ?_⟩
  refine List.forall_mem_cons.mpr ⟨ok_icmp_ge hx hb dd_X7_centuries_50 (by decide), ?_⟩
  refine List.forall_mem_cons.mpr ⟨ok_lload_n hx hb rfl dd_X7_centuries_53, ?_⟩
  refine List.forall_mem_cons.mpr ⟨ok_ldc2 hx hb hown (hts _ wd_755) dd_X7_centuries_54, ?_⟩
  refine List.forall_mem_cons.mpr ⟨ok_lmul hx hb dd_X7_centuries_57, ?_⟩
  refine List.forall_mem_cons.mpr ⟨ok_ldc2 hx hb hown (hts _ wd_756) dd_X7_centuries_58, ?_⟩
  refine List.forall_mem_cons.mpr ⟨ok_ladd hx hb dd_X7_centuries_61, ?_⟩
  refine List.forall_mem_cons.mpr ⟨ok_ldc2 hx hb hown (hts _ wd_757) dd_X7_centuries_62, ?_⟩
  refine List.forall_mem_cons.mpr ⟨ok_lrem hx hb dd_X7_centuries_65, ?_⟩
  refine List.forall_mem_cons.mpr ⟨ok_lstore_n hx hb rfl dd_X7_centuries_66, ?_⟩
  refine List.forall_mem_cons.mpr ⟨ok_aload_n hx hb rfl dd_X7_centuries_67, ?_⟩
  refine List.forall_mem_cons.mpr ⟨ok_getR (j := 2) hx hb hts zi_X7 hown hK zc_X7 (by decide) rfl (fun t fl h => by cases h; rfl) (hts _ wd_273) dd_X7_centuries_68, ?_⟩
  refine List.forall_mem_cons.mpr ⟨ok_lload_n hx hb rfl dd_X7_centuries_71, ?_⟩
  refine List.forall_mem_cons.mpr ⟨ok_ldc2 hx hb hown (hts _ wd_758) dd_X7_centuries_72, ?_⟩
  refine List.forall_mem_cons.mpr ⟨ok_ldiv hx hb dd_X7_centuries_75, ?_⟩
  refine List.forall_mem_cons.mpr ⟨ok_l2i hx hb dd_X7_centuries_76, ?_⟩
  refine List.forall_mem_cons.mpr ⟨ok_callVN (n := 1) zc_X3 rv_X3_chance C0 (h_X3_chance (d + 6) (by omega)) (by decide) wd_762 nd_759 wd_761 wd_54 wd_102 ⟨by decide +kernel, by decide +kernel, by decide +kernel⟩ dd_X7_centuries_77, ?_⟩
  refine List.forall_mem_cons.mpr ⟨ok_aload_n hx hb rfl dd_X7_centuries_80, ?_⟩
  refine List.forall_mem_cons.mpr ⟨ok_getR (j := 2) hx hb hts zi_X7 hown hK zc_X7 (by decide) rfl (fun t fl h => by cases h; rfl) (hts _ wd_273) dd_X7_centuries_81, ?_⟩
  refine List.forall_mem_cons.mpr ⟨ok_lload_n hx hb rfl dd_X7_centuries_84, ?_⟩
  refine List.forall_mem_cons.mpr ⟨ok_ldc2 hx hb hown (hts _ wd_763) dd_X7_centuries_85, ?_⟩
  refine List.forall_mem_cons.mpr ⟨ok_ldiv hx hb dd_X7_centuries_88, ?_⟩
  refine List.forall_mem_cons.mpr ⟨ok_ldc2 hx hb hown (hts _ wd_764) dd_X7_centuries_89, ?_⟩
  refine List.forall_mem_cons.mpr ⟨ok_lrem hx hb dd_X7_centuries_92, ?_⟩
  refine List.forall_mem_cons.mpr ⟨ok_l2i hx hb dd_X7_centuries_93, ?_⟩
  refine List.forall_mem_cons.mpr ⟨ok_callVN (n := 1) zc_X3 rv_X3_pass C0 (h_X3_pass (d + 6) (by omega)) (by decide) wd_372 nd_369 wd_371 wd_11 wd_102 ⟨by decide +kernel, by decide +kernel, by decide +kernel⟩ dd_X7_centuries_94, ?_⟩
  refine List.forall_mem_cons.mpr ⟨ok_iinc hx hb dd_X7_centuries_97 (by decide), ?_⟩
  refine List.forall_mem_cons.mpr ⟨ok_goto hx hb dd_X7_centuries_100 (by decide), ?_⟩
  refine List.forall_mem_cons.mpr ⟨ok_aload_n hx hb rfl dd_X7_centuries_103, ?_⟩
  refine List.forall_mem_cons.mpr ⟨ok_getR (j := 2) hx hb hts zi_X7 hown hK zc_X7 (by decide) rfl (fun t fl h => by cases h; rfl) (hts _ wd_273) dd_X7_centuries_104, ?_⟩
  refine List.forall_mem_cons.mpr ⟨ok_aload_n hx hb rfl dd_X7_centuries_107, ?_⟩
  refine List.forall_mem_cons.mpr ⟨ok_getR (j := 2) hx hb hts zi_X7 hown hK zc_X7 (by decide) rfl (fun t fl h => by cases h; rfl) (hts _ wd_273) dd_X7_centuries_108, ?_⟩
  refine List.forall_mem_cons.mpr ⟨ok_getIN (j := 6) hx hb hts zi_X3 hown hK zc_X3 (by decide) rfl (fun t fl h => by cases h; rfl) (va_Nw.use rfl (hN _ nd_144)) dd_X7_centuries_111, ?_⟩
  refine List.forall_mem_cons.mpr ⟨ok_callVN (n := 1) zc_X3 rv_X3_quarrelsIn C0 (h_X3_quarrelsIn (d + 6) (by omega)) (by decide) wd_768 nd_765 wd_767 wd_55 wd_102 ⟨by decide +kernel, by decide +kernel, by decide +kernel⟩ dd_X7_centuries_114, ?_⟩
  refine List.forall_mem_cons.mpr ⟨ok_iret hx hb hr hlocks hQ dd_X7_centuries_117, ?_⟩
  exact fun _ h => absurd h List.not_mem_nil
set_option maxRecDepth 100000 in
theorem vc_X7_centuries_0 {kd : Nat → Nat} {K : zK} {X : zX} (hX : ∀ (n pc : Nat) (ls : zLS) (st : List zV) (M : zM), zrun (tb_X7_centuries kd K) [(47, [])] n X pc ls st M → X pc ls st M) {x : Int32} {n : Int32} {M : zM} (hk0 : kd 0 = 1) (hk1 : kd 2 = 3) (hk2 : kd 5 = 3) (hk3 : kd 1 = 2) (h : ∀ v1 : Int32, (v1 = zp ((0 : Int32).toInt ≤ x.toInt ∧ x.toInt ≤ (999999 : Int32).toInt)) → ((v1 = 0) → ∃ s2 : St, (RpX kd M s2) ∧ ∃ k2 : Nat, (k2 < 3 ∧ (-2 : Int32).toInt = -2 - (k2 : Int)) ∧ ∀ v2 : Int32, (v2 = (-2 : Int32)) → ∀ M2 : zM, (RpX kd M2 (sRf s2 k2)) → (fr9 M M2) → K (some (zI (v2))) M2) ∧ ((¬ v1 = 0) → ∀ v3 : Int32, (v3 = zp ((0 : Int32).toInt ≤ n.toInt ∧ n.toInt ≤ (30 : Int32).toInt)) → ((¬ v3 = 0) → (¬ 5 = 2) ∧ ∃ a4 : Sk, (RpS (M.1 2) a4) ∧ ∀ S4 : zB, (RpS S4 (a4)) → ∀ M4 : zM, (M4 = zbs M 5 S4) → X 47 [some (zR 0 0), some (zI (x)), some (zI (n)), some (zL (x.toInt64)), none, some (zI ((0 : Int32)))] [] M4) ∧ ((v3 = 0) → ∃ s5 : St, (RpX kd M s5) ∧ ∃ k5 : Nat, (k5 < 3 ∧ (-2 : Int32).toInt = -2 - (k5 : Int)) ∧ ∀ v5 : Int32, (v5 = (-2 : Int32)) → ∀ M5 : zM, (RpX kd M5 (sRf s5 k5)) → (fr9 M M5) → K (some (zI (v5))) M5))) : X 0 [some (zR 0 0), some (zI (x)), some (zI (n)), none, none, none] [] M := hX 23 0 _ [] M (show ∀ v1 : Int32, (v1 = zp ((0 : Int32).toInt ≤ x.toInt ∧ x.toInt ≤ (999999 : Int32).toInt)) → ((v1 = 0) → (kd 0 = 1) ∧ ∃ s2 : St, (RpX kd M s2) ∧ ∃ k2 : Nat, (k2 < 3 ∧ (-2 : Int32).toInt = -2 - (k2 : Int)) ∧ ∀ v2 : Int32, (v2 = (-2 : Int32)) → ∀ M2 : zM, (RpX kd M2 (sRf s2 k2)) → (fr9 M M2) → K (some (zI (v2))) M2) ∧ ((¬ v1 = 0) → ∀ v3 : Int32, (v3 = zp ((0 : Int32).toInt ≤ n.toInt ∧ n.toInt ≤ (30 : Int32).toInt)) → ((¬ v3 = 0) → (kd 0 = 1) ∧ (kd 0 = 1) ∧ (kd 1 = 2) ∧ (kd 5 = 3) ∧ (kd 2 = 3) ∧ (¬ 5 = 2) ∧ ∃ a4 : Sk, (RpS (M.1 2) a4) ∧ ∀ S4 : zB, (RpS S4 (a4)) → ∀ M4 : zM, (M4 = zbs M 5 S4) → X 47 [some (zR 0 0), some (zI (x)), some (zI (n)), some (zL (x.toInt64)), none, some (zI ((0 : Int32)))] [] M4) ∧ ((v3 = 0) → (kd 0 = 1) ∧ ∃ s5 : St, (RpX kd M s5) ∧ ∃ k5 : Nat, (k5 < 3 ∧ (-2 : Int32).toInt = -2 - (k5 : Int)) ∧ ∀ v5 : Int32, (v5 = (-2 : Int32)) → ∀ M5 : zM, (RpX kd M5 (sRf s5 k5)) → (fr9 M M5) → K (some (zI (v5))) M5)) from fun v1 => have h := h v1; fun q => have h := h q; ⟨fun q => have h := h.1 q; ⟨hk0, h.elim (fun s2 h => ⟨s2, ⟨h.1, have h := h.2; h.elim (fun k2 h => ⟨k2, ⟨h.1, have h := h.2; fun v2 => have h := h v2; fun q => have h := h q; fun M2 => have h := h M2; fun q => have h := h q; fun q => have h := h q; h⟩⟩)⟩⟩)⟩, fun q => have h := h.2 q; fun v3 => have h := h v3; fun q => have h := h q; ⟨fun q => have h := h.1 q; ⟨hk0, ⟨hk0, ⟨hk3, ⟨hk2, ⟨hk1, ⟨h.1, have h := h.2; h.elim (fun a4 h => ⟨a4, ⟨h.1, have h := h.2; fun S4 => have h := h S4; fun q => have h := h q; fun M4 => have h := h M4; fun q => have h := h q; h⟩⟩)⟩⟩⟩⟩⟩⟩, fun q => have h := h.2 q; ⟨hk0, h.elim (fun s5 h => ⟨s5, ⟨h.1, have h := h.2; h.elim (fun k5 h => ⟨k5, ⟨h.1, have h := h.2; fun v5 => have h := h v5; fun q => have h := h q; fun M5 => have h := h M5; fun q => have h := h q; fun q => have h := h q; h⟩⟩)⟩⟩)⟩⟩⟩)
set_option maxRecDepth 100000 in
theorem vc_X7_centuries_47 {kd : Nat → Nat} {K : zK} {X : zX} (hX : ∀ (n pc : Nat) (ls : zLS) (st : List zV) (M : zM), zrun (tb_X7_centuries kd K) [(47, [])] n X pc ls st M → X pc ls st M) {x : Int32} {n : Int32} {p : Int64} {k : Int32} {M : zM} (hk0 : kd 5 = 3) (hk1 : kd 0 = 1) (h : ((n ≤ k) → ∃ a1 : Sk, (RpS (M.1 5) a1) ∧ (0 ≤ (M.1 5 0 6).toInt ∧ (M.1 5 0 6).toInt < 1000000) ∧ ∀ v1 : Int32, (v1.toInt = sk_qu a1 (M.1 5 0 6).toInt) → K (some (zI (v1))) M) ∧ ((¬ n ≤ k) → ∃ a2 : Sk, (RpS (M.1 5) a2) ∧ (0 ≤ (((((p * (1103515245 : Int64)) + (12345 : Int64)) - ((p * (1103515245 : Int64)) + (12345 : Int64)) / (2147483648 : Int64) * (2147483648 : Int64)) / (65536 : Int64)).toInt32).toInt) ∧ ∀ S2 : zB, (RpS S2 (sk_ch a2 (((((p * (1103515245 : Int64)) + (12345 : Int64)) - ((p * (1103515245 : Int64)) + (12345 : Int64)) / (2147483648 : Int64) * (2147483648 : Int64)) / (65536 : Int64)).toInt32).toInt)) → ∀ M2 : zM, (M2 = zbs M 5 S2) → ∃ a3 : Sk, (RpS (M2.1 5) a3) ∧ (0 ≤ ((((((p * (1103515245 : Int64)) + (12345 : Int64)) - ((p * (1103515245 : Int64)) + (12345 : Int64)) / (2147483648 : Int64) * (2147483648 : Int64)) / (1048576 : Int64)) - ((((p * (1103515245 : Int64)) + (12345 : Int64)) - ((p * (1103515245 : Int64)) + (12345 : Int64)) / (2147483648 : Int64) * (2147483648 : Int64)) / (1048576 : Int64)) / (50 : Int64) * (50 : Int64)).toInt32).toInt ∧ ((((((p * (1103515245 : Int64)) + (12345 : Int64)) - ((p * (1103515245 : Int64)) + (12345 : Int64)) / (2147483648 : Int64) * (2147483648 : Int64)) / (1048576 : Int64)) - ((((p * (1103515245 : Int64)) + (12345 : Int64)) - ((p * (1103515245 : Int64)) + (12345 : Int64)) / (2147483648 : Int64) * (2147483648 : Int64)) / (1048576 : Int64)) / (50 : Int64) * (50 : Int64)).toInt32).toInt ≤ 99) ∧ ∀ S3 : zB, (RpS S3 (sk_yr a3 ((((((p * (1103515245 : Int64)) + (12345 : Int64)) - ((p * (1103515245 : Int64)) + (12345 : Int64)) / (2147483648 : Int64) * (2147483648 : Int64)) / (1048576 : Int64)) - ((((p * (1103515245 : Int64)) + (12345 : Int64)) - ((p * (1103515245 : Int64)) + (12345 : Int64)) / (2147483648 : Int64) * (2147483648 : Int64)) / (1048576 : Int64)) / (50 : Int64) * (50 : Int64)).toInt32).toInt)) → ∀ M3 : zM, (M3 = zbs M2 5 S3) → X 47 [some (zR 0 0), some (zI (x)), some (zI (n)), some (zL (((p * (1103515245 : Int64)) + (12345 : Int64)) - ((p * (1103515245 : Int64)) + (12345 : Int64)) / (2147483648 : Int64) * (2147483648 : Int64))), none, some (zI (k + 1))] [] M3)) : X 47 [some (zR 0 0), some (zI (x)), some (zI (n)), some (zL (p)), none, some (zI (k))] [] M := hX 31 47 _ [] M (show ((n ≤ k) → (kd 0 = 1) ∧ (kd 0 = 1) ∧ (kd 5 = 3) ∧ (kd 5 = 3) ∧ ∃ a1 : Sk, (RpS (M.1 5) a1) ∧ (0 ≤ (M.1 5 0 6).toInt ∧ (M.1 5 0 6).toInt < 1000000) ∧ ∀ v1 : Int32, (v1.toInt = sk_qu a1 (M.1 5 0 6).toInt) → K (some (zI (v1))) M) ∧ ((¬ n ≤ k) → (¬ (2147483648 : Int64) = 0) ∧ (kd 0 = 1) ∧ (¬ (65536 : Int64) = 0) ∧ (kd 5 = 3) ∧ ∃ a2 : Sk, (RpS (M.1 5) a2) ∧ (0 ≤ (((((p * (1103515245 : Int64)) + (12345 : Int64)) - ((p * (1103515245 : Int64)) + (12345 : Int64)) / (2147483648 : Int64) * (2147483648 : Int64)) / (65536 : Int64)).toInt32).toInt) ∧ ∀ S2 : zB, (RpS S2 (sk_ch a2 (((((p * (1103515245 : Int64)) + (12345 : Int64)) - ((p * (1103515245 : Int64)) + (12345 : Int64)) / (2147483648 : Int64) * (2147483648 : Int64)) / (65536 : Int64)).toInt32).toInt)) → ∀ M2 : zM, (M2 = zbs M 5 S2) → (kd 0 = 1) ∧ (¬ (1048576 : Int64) = 0) ∧ (¬ (50 : Int64) = 0) ∧ (kd 5 = 3) ∧ ∃ a3 : Sk, (RpS (M2.1 5) a3) ∧ (0 ≤ ((((((p * (1103515245 : Int64)) + (12345 : Int64)) - ((p * (1103515245 : Int64)) + (12345 : Int64)) / (2147483648 : Int64) * (2147483648 : Int64)) / (1048576 : Int64)) - ((((p * (1103515245 : Int64)) + (12345 : Int64)) - ((p * (1103515245 : Int64)) + (12345 : Int64)) / (2147483648 : Int64) * (2147483648 : Int64)) / (1048576 : Int64)) / (50 : Int64) * (50 : Int64)).toInt32).toInt ∧ ((((((p * (1103515245 : Int64)) + (12345 : Int64)) - ((p * (1103515245 : Int64)) + (12345 : Int64)) / (2147483648 : Int64) * (2147483648 : Int64)) / (1048576 : Int64)) - ((((p * (1103515245 : Int64)) + (12345 : Int64)) - ((p * (1103515245 : Int64)) + (12345 : Int64)) / (2147483648 : Int64) * (2147483648 : Int64)) / (1048576 : Int64)) / (50 : Int64) * (50 : Int64)).toInt32).toInt ≤ 99) ∧ ∀ S3 : zB, (RpS S3 (sk_yr a3 ((((((p * (1103515245 : Int64)) + (12345 : Int64)) - ((p * (1103515245 : Int64)) + (12345 : Int64)) / (2147483648 : Int64) * (2147483648 : Int64)) / (1048576 : Int64)) - ((((p * (1103515245 : Int64)) + (12345 : Int64)) - ((p * (1103515245 : Int64)) + (12345 : Int64)) / (2147483648 : Int64) * (2147483648 : Int64)) / (1048576 : Int64)) / (50 : Int64) * (50 : Int64)).toInt32).toInt)) → ∀ M3 : zM, (M3 = zbs M2 5 S3) → X 47 [some (zR 0 0), some (zI (x)), some (zI (n)), some (zL (((p * (1103515245 : Int64)) + (12345 : Int64)) - ((p * (1103515245 : Int64)) + (12345 : Int64)) / (2147483648 : Int64) * (2147483648 : Int64))), none, some (zI (k + 1))] [] M3) from ⟨fun q => have h := h.1 q; ⟨hk1, ⟨hk1, ⟨hk0, ⟨hk0, h.elim (fun a1 h => ⟨a1, ⟨h.1, have h := h.2; ⟨h.1, have h := h.2; fun v1 => have h := h v1; fun q => have h := h q; h⟩⟩⟩)⟩⟩⟩⟩, fun q => have h := h.2 q; ⟨(by decide), ⟨hk1, ⟨(by decide), ⟨hk0, h.elim (fun a2 h => ⟨a2, ⟨h.1, have h := h.2; ⟨h.1, have h := h.2; fun S2 => have h := h S2; fun q => have h := h q; fun M2 => have h := h M2; fun q => have h := h q; ⟨hk1, ⟨(by decide), ⟨(by decide), ⟨hk0, h.elim (fun a3 h => ⟨a3, ⟨h.1, have h := h.2; ⟨h.1, have h := h.2; fun S3 => have h := h S3; fun q => have h := h q; fun M3 => have h := h M3; fun q => have h := h q; h⟩⟩⟩)⟩⟩⟩⟩⟩⟩⟩)⟩⟩⟩⟩⟩)
def sp_X7_digest : zSpec := fun kd as M K => match as with
  | [.inr (.inr (.inl (0, 0)))] => (kd 0 = 1) ∧ (KdX kd) ∧ ∃ s : St, (RpX kd M s) ∧ ∀ v : Int64, (v = ev_digest s) → ∀ M' : zM, (RpX kd M' s) → (fr9 M M') → K (some (.inr (.inl v))) M'
  | _ => False
theorem rv_X7_digest : zrv sp_X7_digest 1 0 := by
  intro kd as M K h
  unfold sp_X7_digest at h
  split at h
  · exact ⟨_, _, rfl, h.1⟩
  · exact h.elim
theorem dd_X7_digest_0 : decode cX7_digest 0 = .ok (.ldc2_w 249, 3) := by decide +kernel
theorem dd_X7_digest_3 : decode cX7_digest 3 = .ok (.lstore_n 1, 1) := by decide +kernel
theorem dd_X7_digest_4 : decode cX7_digest 4 = .ok (.iconst 0, 1) := by decide +kernel
theorem dd_X7_digest_5 : decode cX7_digest 5 = .ok (.istore_n 3, 1) := by decide +kernel
theorem dd_X7_digest_6 : decode cX7_digest 6 = .ok (.iload_n 3, 1) := by decide +kernel
theorem dd_X7_digest_7 : decode cX7_digest 7 = .ok (.bipush 7, 2) := by decide +kernel
theorem dd_X7_digest_9 : decode cX7_digest 9 = .ok (.if_icmp .ge 20, 3) := by decide +kernel
theorem dd_X7_digest_12 : decode cX7_digest 12 = .ok (.lload_n 1, 1) := by decide +kernel
theorem dd_X7_digest_13 : decode cX7_digest 13 = .ok (.aload_n 0, 1) := by decide +kernel
theorem dd_X7_digest_14 : decode cX7_digest 14 = .ok (.iload_n 3, 1) := by decide +kernel
theorem dd_X7_digest_15 : decode cX7_digest 15 = .ok (.invokevirtual 251, 3) := by decide +kernel
theorem dd_X7_digest_18 : decode cX7_digest 18 = .ok (.i2l, 1) := by decide +kernel
theorem dd_X7_digest_19 : decode cX7_digest 19 = .ok (.invokestatic 254, 3) := by decide +kernel
theorem dd_X7_digest_22 : decode cX7_digest 22 = .ok (.lstore_n 1, 1) := by decide +kernel
theorem dd_X7_digest_23 : decode cX7_digest 23 = .ok (.iinc 3 1, 3) := by decide +kernel
theorem dd_X7_digest_26 : decode cX7_digest 26 = .ok (.goto (-20), 3) := by decide +kernel
theorem dd_X7_digest_29 : decode cX7_digest 29 = .ok (.aload_n 0, 1) := by decide +kernel
theorem dd_X7_digest_30 : decode cX7_digest 30 = .ok (.getfield 12, 3) := by decide +kernel
theorem dd_X7_digest_33 : decode cX7_digest 33 = .ok (.getfield 52, 3) := by decide +kernel
theorem dd_X7_digest_36 : decode cX7_digest 36 = .ok (.lload_n 1, 1) := by decide +kernel
theorem dd_X7_digest_37 : decode cX7_digest 37 = .ok (.invokevirtual 258, 3) := by decide +kernel
theorem dd_X7_digest_40 : decode cX7_digest 40 = .ok (.lstore_n 1, 1) := by decide +kernel
theorem dd_X7_digest_41 : decode cX7_digest 41 = .ok (.aload_n 0, 1) := by decide +kernel
theorem dd_X7_digest_42 : decode cX7_digest 42 = .ok (.getfield 12, 3) := by decide +kernel
theorem dd_X7_digest_45 : decode cX7_digest 45 = .ok (.getfield 188, 3) := by decide +kernel
theorem dd_X7_digest_48 : decode cX7_digest 48 = .ok (.lload_n 1, 1) := by decide +kernel
theorem dd_X7_digest_49 : decode cX7_digest 49 = .ok (.invokevirtual 262, 3) := by decide +kernel
theorem dd_X7_digest_52 : decode cX7_digest 52 = .ok (.lstore_n 1, 1) := by decide +kernel
theorem dd_X7_digest_53 : decode cX7_digest 53 = .ok (.lload_n 1, 1) := by decide +kernel
theorem dd_X7_digest_54 : decode cX7_digest 54 = .ok (.aload_n 0, 1) := by decide +kernel
theorem dd_X7_digest_55 : decode cX7_digest 55 = .ok (.getfield 45, 3) := by decide +kernel
theorem dd_X7_digest_58 : decode cX7_digest 58 = .ok (.invokestatic 254, 3) := by decide +kernel
theorem dd_X7_digest_61 : decode cX7_digest 61 = .ok (.aload_n 0, 1) := by decide +kernel
theorem dd_X7_digest_62 : decode cX7_digest 62 = .ok (.getfield 49, 3) := by decide +kernel
theorem dd_X7_digest_65 : decode cX7_digest 65 = .ok (.invokestatic 254, 3) := by decide +kernel
theorem dd_X7_digest_68 : decode cX7_digest 68 = .ok (.lreturn, 1) := by decide +kernel
def tb_X7_digest (kd : Nat → Nat) (K : zK) : zTab := [(0, zt_const (zL 1163) 3), (3, zt_lstore 1 4), (4, zt_const (zI 0) 5), (5, zt_istore 3 6), (6, zt_iload 3 7), (7, zt_const (zI 7) 9), (9, zt_icmp (fun x y => y ≤ x) (fun x y => ¬ y ≤ x) 29 12), (12, zt_lload 1 13), (13, zt_aload 0 14), (14, zt_iload 3 15), (15, zt_call kd sp_X7_count 2 18), (18, zt_un (fun x => zL x.toInt64) 19), (19, zt_call kd sp_X7_mix 2 22), (22, zt_lstore 1 23), (23, zt_iinc 3 1 26), (26, zt_goto 6), (29, zt_aload 0 30), (30, zt_getR kd 1 1 0 33), (33, zt_getR kd 2 1 0 36), (36, zt_lload 1 37), (37, zt_call kd sp_X3_mixed 2 40), (40, zt_lstore 1 41), (41, zt_aload 0 42), (42, zt_getR kd 1 1 0 45), (45, zt_getR kd 2 3 0 48), (48, zt_lload 1 49), (49, zt_call kd sp_X0_mixed 2 52), (52, zt_lstore 1 53), (53, zt_lload 1 54), (54, zt_aload 0 55), (55, zt_getL kd 1 6 58), (58, zt_call kd sp_X7_mix 2 61), (61, zt_aload 0 62), (62, zt_getL kd 1 7 65), (65, zt_call kd sp_X7_mix 2 68), (68, zt_lret K)]
set_option maxRecDepth 20000 in
theorem tk_X7_digest (d : Nat) (h_X7_count : zMS 7 yX7_count cX7_count 2 (some .int) sp_X7_count) (h_X7_mix : zMS 1 yX7_mix cX7_mix 4 (some .long) sp_X7_mix) (h_X3_mixed : zMS 2 yX3_mixed cX3_mixed 9 (some .long) sp_X3_mixed) (h_X0_mixed : zMS 2 yX0_mixed cX0_mixed 6 (some .long) sp_X0_mixed) : zTrue RX7 cX7_digest 4 (some .long) (d + 8) (fun kd K => tb_X7_digest kd K) := by
  intro p l e R s m args below meth c D cy A ad bl Qm K C0 hr hlocks hQ
  obtain ⟨hx, hb, hml, hown, hts, hK, hD, hA0, hN, hE, ⟨hR1, hR2⟩, hc1, hc2⟩ := id C0
  unfold tb_X7_digest
  refine List.forall_mem_cons.mpr ⟨ok_ldc2 hx hb hown (hts _ wd_814) dd_X7_digest_0, ?_⟩
  refine List.forall_mem_cons.mpr ⟨ok_lstore_n hx hb rfl dd_X7_digest_3, ?_⟩
  refine List.forall_mem_cons.mpr ⟨ok_iconst hx hb dd_X7_digest_4 (by decide), ?_⟩
  refine List.forall_mem_cons.mpr ⟨ok_istore_n hx hb rfl dd_X7_digest_5, ?_⟩
  refine List.forall_mem_cons.mpr ⟨ok_iload_n hx hb rfl dd_X7_digest_6, ?_⟩
  refine List.forall_mem_cons.mpr ⟨ok_bipush hx hb dd_X7_digest_7 (by decide), ?_⟩
  refine List.forall_mem_cons.mpr ⟨ok_icmp_ge hx hb dd_X7_digest_9 (by decide), ?_⟩
  refine List.forall_mem_cons.mpr ⟨ok_lload_n hx hb rfl dd_X7_digest_12, ?_⟩
  refine List.forall_mem_cons.mpr ⟨ok_aload_n hx hb rfl dd_X7_digest_13, ?_⟩
  refine List.forall_mem_cons.mpr ⟨ok_iload_n hx hb rfl dd_X7_digest_14, ?_⟩
  refine List.forall_mem_cons.mpr ⟨ok_callV (n := 1) zc_X7 rv_X7_count C0 (h_X7_count (d + 7) (by omega)) (by decide) wd_805 wd_815 wd_803 wd_804 wd_100 ⟨rfl, by decide +kernel, by decide +kernel, by decide +kernel⟩ dd_X7_digest_15, ?_⟩
  refine List.forall_mem_cons.mpr ⟨ok_i2l hx hb dd_X7_digest_18, ?_⟩
  refine List.forall_mem_cons.mpr ⟨ok_callS (n := 2) C0 (h_X7_mix (d + 7) (by omega)) (by decide) wd_818 wd_816 wd_817 wd_100 ⟨by decide +kernel, by decide +kernel, by decide +kernel⟩ dd_X7_digest_19, ?_⟩
  refine List.forall_mem_cons.mpr ⟨ok_lstore_n hx hb rfl dd_X7_digest_22, ?_⟩
  refine List.forall_mem_cons.mpr ⟨ok_iinc hx hb dd_X7_digest_23 (by decide), ?_⟩
  refine List.forall_mem_cons.mpr ⟨ok_goto hx hb dd_X7_digest_26 (by decide), ?_⟩
  refine List.forall_mem_cons.mpr ⟨ok_aload_n hx hb rfl dd_X7_digest_29, ?_⟩
  refine List.forall_mem_cons.mpr ⟨ok_getR (j := 0) hx hb hts zi_X7 hown hK zc_X7 (by decide) rfl (fun t fl h => by cases h; rfl) (hts _ wd_271) dd_X7_digest_30, ?_⟩
  refine List.forall_mem_cons.mpr ⟨ok_getRN (j := 0) hx hb hts zi_X2 hown hK zc_X2 (by decide) rfl (fun t fl h => by cases h; rfl) (va_Nw.use rfl (hN _ nd_201)) dd_X7_digest_33, ?_⟩
  refine List.forall_mem_cons.mpr ⟨ok_lload_n hx hb rfl dd_X7_digest_36, ?_⟩
  refine List.forall_mem_cons.mpr ⟨ok_callVN (n := 1) zc_X3 rv_X3_mixed C0 (h_X3_mixed (d + 7) (by omega)) (by decide) wd_823 nd_820 wd_822 wd_60 wd_102 ⟨by decide +kernel, by decide +kernel, by decide +kernel⟩ dd_X7_digest_37, ?_⟩
  refine List.forall_mem_cons.mpr ⟨ok_lstore_n hx hb rfl dd_X7_digest_40, ?_⟩
  refine List.forall_mem_cons.mpr ⟨ok_aload_n hx hb rfl dd_X7_digest_41, ?_⟩
  refine List.forall_mem_cons.mpr ⟨ok_getR (j := 0) hx hb hts zi_X7 hown hK zc_X7 (by decide) rfl (fun t fl h => by cases h; rfl) (hts _ wd_271) dd_X7_digest_42, ?_⟩
  refine List.forall_mem_cons.mpr ⟨ok_getRN (j := 2) hx hb hts zi_X2 hown hK zc_X2 (by decide) rfl (fun t fl h => by cases h; rfl) (va_Nw.use rfl (hN _ nd_205)) dd_X7_digest_45, ?_⟩
  refine List.forall_mem_cons.mpr ⟨ok_lload_n hx hb rfl dd_X7_digest_48, ?_⟩
  refine List.forall_mem_cons.mpr ⟨ok_callVN (n := 1) zc_X0 rv_X0_mixed C0 (h_X0_mixed (d + 7) (by omega)) (by decide) wd_829 nd_826 wd_828 wd_61 wd_104 ⟨by decide +kernel, by decide +kernel, by decide +kernel⟩ dd_X7_digest_49, ?_⟩
  refine List.forall_mem_cons.mpr ⟨ok_lstore_n hx hb rfl dd_X7_digest_52, ?_⟩
  refine List.forall_mem_cons.mpr ⟨ok_lload_n hx hb rfl dd_X7_digest_53, ?_⟩
  refine List.forall_mem_cons.mpr ⟨ok_aload_n hx hb rfl dd_X7_digest_54, ?_⟩
  refine List.forall_mem_cons.mpr ⟨ok_getL (j := 6) hx hb hts zi_X7 hown hK zc_X7 (by decide) rfl (fun t fl h => by cases h; rfl) (hts _ wd_277) dd_X7_digest_55, ?_⟩
  refine List.forall_mem_cons.mpr ⟨ok_callS (n := 2) C0 (h_X7_mix (d + 7) (by omega)) (by decide) wd_818 wd_816 wd_817 wd_100 ⟨by decide +kernel, by decide +kernel, by decide +kernel⟩ dd_X7_digest_58, ?_⟩
  refine List.forall_mem_cons.mpr ⟨ok_aload_n hx hb rfl dd_X7_digest_61, ?_⟩
  refine List.forall_mem_cons.mpr ⟨ok_getL (j := 7) hx hb hts zi_X7 hown hK zc_X7 (by decide) rfl (fun t fl h => by cases h; rfl) (hts _ wd_278) dd_X7_digest_62, ?_⟩
  refine List.forall_mem_cons.mpr ⟨ok_callS (n := 2) C0 (h_X7_mix (d + 7) (by omega)) (by decide) wd_818 wd_816 wd_817 wd_100 ⟨by decide +kernel, by decide +kernel, by decide +kernel⟩ dd_X7_digest_65, ?_⟩
  refine List.forall_mem_cons.mpr ⟨ok_lret hx hb hr hlocks hQ dd_X7_digest_68, ?_⟩
  exact fun _ h => absurd h List.not_mem_nil
set_option maxRecDepth 100000 in
theorem vc_X7_digest_0 {kd : Nat → Nat} {K : zK} {X : zX} (hX : ∀ (n pc : Nat) (ls : zLS) (st : List zV) (M : zM), zrun (tb_X7_digest kd K) [(6, [])] n X pc ls st M → X pc ls st M)  {M : zM}  (h : X 6 [some (zR 0 0), some (zL ((1163 : Int64))), none, some (zI ((0 : Int32)))] [] M) : X 0 [some (zR 0 0), none, none, none] [] M := hX 6 0 _ [] M (show X 6 [some (zR 0 0), some (zL ((1163 : Int64))), none, some (zI ((0 : Int32)))] [] M from h)
set_option maxRecDepth 100000 in
theorem vc_X7_digest_6 {kd : Nat → Nat} {K : zK} {X : zX} (hX : ∀ (n pc : Nat) (ls : zLS) (st : List zV) (M : zM), zrun (tb_X7_digest kd K) [(6, [])] n X pc ls st M → X pc ls st M) {p : Int64} {k : Int32} {M : zM} (hk0 : kd 0 = 1) (hk1 : kd 4 = 5) (hk2 : kd 1 = 2) (hk3 : kd 2 = 3) (h : (((7 : Int32) ≤ k) → ∃ a1 : Sk, (RpS (M.1 2) a1) ∧ ∀ v1 : Int64, (v1 = sk_mix a1 p) → ∃ L2 : List Se, (RpL (M.1 4) L2) ∧ ∀ v2 : Int64, (v2 = L2.foldl mxS v1) → ∀ v3 : Int64, (v3 = 31 * v2 + (M.2 0 6)) → ∀ v4 : Int64, (v4 = 31 * v3 + (M.2 0 7)) → K (some (zL (v4))) M) ∧ ((¬ (7 : Int32) ≤ k) → (KdX kd) ∧ ∃ s5 : St, (RpX kd M s5) ∧ ∀ v5 : Int32, (v5.toInt = (ev_count s5 k.toInt).1) → ∀ M5 : zM, (RpX kd M5 (ev_count s5 k.toInt).2) → (fr9 M M5) → ∀ v6 : Int64, (v6 = 31 * p + v5.toInt64) → X 6 [some (zR 0 0), some (zL (v6)), none, some (zI (k + 1))] [] M5)) : X 6 [some (zR 0 0), some (zL (p)), none, some (zI (k))] [] M := hX 24 6 _ [] M (show (((7 : Int32) ≤ k) → (kd 0 = 1) ∧ (kd 1 = 2) ∧ (kd 2 = 3) ∧ ∃ a1 : Sk, (RpS (M.1 2) a1) ∧ ∀ v1 : Int64, (v1 = sk_mix a1 p) → (kd 0 = 1) ∧ (kd 1 = 2) ∧ (kd 4 = 5) ∧ ∃ L2 : List Se, (RpL (M.1 4) L2) ∧ ∀ v2 : Int64, (v2 = L2.foldl mxS v1) → (kd 0 = 1) ∧ ∀ v3 : Int64, (v3 = 31 * v2 + (M.2 0 6)) → (kd 0 = 1) ∧ ∀ v4 : Int64, (v4 = 31 * v3 + (M.2 0 7)) → K (some (zL (v4))) M) ∧ ((¬ (7 : Int32) ≤ k) → (kd 0 = 1) ∧ (KdX kd) ∧ ∃ s5 : St, (RpX kd M s5) ∧ ∀ v5 : Int32, (v5.toInt = (ev_count s5 k.toInt).1) → ∀ M5 : zM, (RpX kd M5 (ev_count s5 k.toInt).2) → (fr9 M M5) → ∀ v6 : Int64, (v6 = 31 * p + v5.toInt64) → X 6 [some (zR 0 0), some (zL (v6)), none, some (zI (k + 1))] [] M5) from ⟨fun q => have h := h.1 q; ⟨hk0, ⟨hk2, ⟨hk3, h.elim (fun a1 h => ⟨a1, ⟨h.1, have h := h.2; fun v1 => have h := h v1; fun q => have h := h q; ⟨hk0, ⟨hk2, ⟨hk1, h.elim (fun L2 h => ⟨L2, ⟨h.1, have h := h.2; fun v2 => have h := h v2; fun q => have h := h q; ⟨hk0, fun v3 => have h := h v3; fun q => have h := h q; ⟨hk0, fun v4 => have h := h v4; fun q => have h := h q; h⟩⟩⟩⟩)⟩⟩⟩⟩⟩)⟩⟩⟩, fun q => have h := h.2 q; ⟨hk0, ⟨h.1, have h := h.2; h.elim (fun s5 h => ⟨s5, ⟨h.1, have h := h.2; fun v5 => have h := h v5; fun q => have h := h q; fun M5 => have h := h M5; fun q => have h := h q; fun q => have h := h q; fun v6 => have h := h v6; fun q => have h := h q; h⟩⟩)⟩⟩⟩)
