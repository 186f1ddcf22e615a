def sp_X3_lastEnd : zSpec := fun kd as M K => match as with
  | [.inr (.inr (.inl (t, 0))), .inl c, .inl i] => (kd t = 3) ∧ ∃ a : Sk, (RpS (M.1 t) a) ∧ ∃ l : Ly, (sk_at a c.toInt i.toInt = some l) ∧ ∀ v : Int32, (sk_isE a c.toInt i.toInt v.toInt) → K (some (.inl v)) M
  | _ => False
theorem rv_X3_lastEnd : zrv sp_X3_lastEnd 3 2 := by
  intro kd as M K h
  unfold sp_X3_lastEnd at h
  split at h
  · exact ⟨_, _, rfl, h.1⟩
  · exact h.elim
theorem dd_X3_lastEnd_0 : decode cX3_lastEnd 0 = .ok (.aload_n 0, 1) := by decide +kernel
theorem dd_X3_lastEnd_1 : decode cX3_lastEnd 1 = .ok (.iload_n 1, 1) := by decide +kernel
theorem dd_X3_lastEnd_2 : decode cX3_lastEnd 2 = .ok (.iload_n 2, 1) := by decide +kernel
theorem dd_X3_lastEnd_3 : decode cX3_lastEnd 3 = .ok (.invokevirtual 40, 3) := by decide +kernel
theorem dd_X3_lastEnd_6 : decode cX3_lastEnd 6 = .ok (.istore_n 3, 1) := by decide +kernel
theorem dd_X3_lastEnd_7 : decode cX3_lastEnd 7 = .ok (.iload_n 3, 1) := by decide +kernel
theorem dd_X3_lastEnd_8 : decode cX3_lastEnd 8 = .ok (.iconst (-1), 1) := by decide +kernel
theorem dd_X3_lastEnd_9 : decode cX3_lastEnd 9 = .ok (.if_icmp .ne 5, 3) := by decide +kernel
theorem dd_X3_lastEnd_12 : decode cX3_lastEnd 12 = .ok (.iconst (-1), 1) := by decide +kernel
theorem dd_X3_lastEnd_13 : decode cX3_lastEnd 13 = .ok (.ireturn, 1) := by decide +kernel
theorem dd_X3_lastEnd_14 : decode cX3_lastEnd 14 = .ok (.aload_n 0, 1) := by decide +kernel
theorem dd_X3_lastEnd_15 : decode cX3_lastEnd 15 = .ok (.iload_n 1, 1) := by decide +kernel
theorem dd_X3_lastEnd_16 : decode cX3_lastEnd 16 = .ok (.iload_n 2, 1) := by decide +kernel
theorem dd_X3_lastEnd_17 : decode cX3_lastEnd 17 = .ok (.sipush 999, 3) := by decide +kernel
theorem dd_X3_lastEnd_20 : decode cX3_lastEnd 20 = .ok (.invokevirtual 88, 3) := by decide +kernel
theorem dd_X3_lastEnd_23 : decode cX3_lastEnd 23 = .ok (.ifCond .eq 5, 3) := by decide +kernel
theorem dd_X3_lastEnd_26 : decode cX3_lastEnd 26 = .ok (.iconst (-1), 1) := by decide +kernel
theorem dd_X3_lastEnd_27 : decode cX3_lastEnd 27 = .ok (.ireturn, 1) := by decide +kernel
theorem dd_X3_lastEnd_28 : decode cX3_lastEnd 28 = .ok (.aload_n 0, 1) := by decide +kernel
theorem dd_X3_lastEnd_29 : decode cX3_lastEnd 29 = .ok (.aload_n 0, 1) := by decide +kernel
theorem dd_X3_lastEnd_30 : decode cX3_lastEnd 30 = .ok (.getfield 15, 3) := by decide +kernel
theorem dd_X3_lastEnd_33 : decode cX3_lastEnd 33 = .ok (.iload_n 3, 1) := by decide +kernel
theorem dd_X3_lastEnd_34 : decode cX3_lastEnd 34 = .ok (.iaload, 1) := by decide +kernel
theorem dd_X3_lastEnd_35 : decode cX3_lastEnd 35 = .ok (.iload_n 3, 1) := by decide +kernel
theorem dd_X3_lastEnd_36 : decode cX3_lastEnd 36 = .ok (.invokevirtual 77, 3) := by decide +kernel
theorem dd_X3_lastEnd_39 : decode cX3_lastEnd 39 = .ok (.istore 4, 2) := by decide +kernel
theorem dd_X3_lastEnd_41 : decode cX3_lastEnd 41 = .ok (.iload 4, 2) := by decide +kernel
theorem dd_X3_lastEnd_43 : decode cX3_lastEnd 43 = .ok (.ldc 73, 2) := by decide +kernel
theorem dd_X3_lastEnd_45 : decode cX3_lastEnd 45 = .ok (.if_icmp .ne 10, 3) := by decide +kernel
theorem dd_X3_lastEnd_48 : decode cX3_lastEnd 48 = .ok (.aload_n 0, 1) := by decide +kernel
theorem dd_X3_lastEnd_49 : decode cX3_lastEnd 49 = .ok (.getfield 30, 3) := by decide +kernel
theorem dd_X3_lastEnd_52 : decode cX3_lastEnd 52 = .ok (.goto 29, 3) := by decide +kernel
theorem dd_X3_lastEnd_55 : decode cX3_lastEnd 55 = .ok (.aload_n 0, 1) := by decide +kernel
theorem dd_X3_lastEnd_56 : decode cX3_lastEnd 56 = .ok (.getfield 30, 3) := by decide +kernel
theorem dd_X3_lastEnd_59 : decode cX3_lastEnd 59 = .ok (.aload_n 0, 1) := by decide +kernel
theorem dd_X3_lastEnd_60 : decode cX3_lastEnd 60 = .ok (.aload_n 0, 1) := by decide +kernel
theorem dd_X3_lastEnd_61 : decode cX3_lastEnd 61 = .ok (.getfield 15, 3) := by decide +kernel
theorem dd_X3_lastEnd_64 : decode cX3_lastEnd 64 = .ok (.iload_n 3, 1) := by decide +kernel
theorem dd_X3_lastEnd_65 : decode cX3_lastEnd 65 = .ok (.iaload, 1) := by decide +kernel
theorem dd_X3_lastEnd_66 : decode cX3_lastEnd 66 = .ok (.iload_n 3, 1) := by decide +kernel
theorem dd_X3_lastEnd_67 : decode cX3_lastEnd 67 = .ok (.aload_n 0, 1) := by decide +kernel
theorem dd_X3_lastEnd_68 : decode cX3_lastEnd 68 = .ok (.iload_n 1, 1) := by decide +kernel
theorem dd_X3_lastEnd_69 : decode cX3_lastEnd 69 = .ok (.iload_n 2, 1) := by decide +kernel
theorem dd_X3_lastEnd_70 : decode cX3_lastEnd 70 = .ok (.iconst 1, 1) := by decide +kernel
theorem dd_X3_lastEnd_71 : decode cX3_lastEnd 71 = .ok (.iadd, 1) := by decide +kernel
theorem dd_X3_lastEnd_72 : decode cX3_lastEnd 72 = .ok (.invokevirtual 40, 3) := by decide +kernel
theorem dd_X3_lastEnd_75 : decode cX3_lastEnd 75 = .ok (.invokevirtual 80, 3) := by decide +kernel
theorem dd_X3_lastEnd_78 : decode cX3_lastEnd 78 = .ok (.invokestatic 92, 3) := by decide +kernel
theorem dd_X3_lastEnd_81 : decode cX3_lastEnd 81 = .ok (.ireturn, 1) := by decide +kernel
def tb_X3_lastEnd (kd : Nat → Nat) (K : zK) : zTab := [(0, zt_aload 0 1), (1, zt_iload 1 2), (2, zt_iload 2 3), (3, zt_call kd sp_X3_slot 3 6), (6, zt_istore 3 7), (7, zt_iload 3 8), (8, zt_const (zI (-1)) 9), (9, zt_icmp (fun x y => ¬ x = y) (fun x y => x = y) 14 12), (12, zt_const (zI (-1)) 13), (13, zt_iret K), (14, zt_aload 0 15), (15, zt_iload 1 16), (16, zt_iload 2 17), (17, zt_const (zI 999) 20), (20, zt_call kd sp_X3_bound 4 23), (23, zt_if (fun x => x = 0) (fun x => ¬ x = 0) 28 26), (26, zt_const (zI (-1)) 27), (27, zt_iret K), (28, zt_aload 0 29), (29, zt_aload 0 30), (30, zt_getR kd 3 0 2 33), (33, zt_iload 3 34), (34, zt_ald kd 0 35), (35, zt_iload 3 36), (36, zt_call kd sp_X3_opens 3 39), (39, zt_istore 4 41), (41, zt_iload 4 43), (43, zt_const (zI 1000000) 45), (45, zt_icmp (fun x y => ¬ x = y) (fun x y => x = y) 55 48), (48, zt_aload 0 49), (49, zt_getI kd 3 6 52), (52, zt_goto 81), (55, zt_aload 0 56), (56, zt_getI kd 3 6 59), (59, zt_aload 0 60), (60, zt_aload 0 61), (61, zt_getR kd 3 0 2 64), (64, zt_iload 3 65), (65, zt_ald kd 0 66), (66, zt_iload 3 67), (67, zt_aload 0 68), (68, zt_iload 1 69), (69, zt_iload 2 70), (70, zt_const (zI 1) 71), (71, zt_bin (fun x y => x + y) 72), (72, zt_call kd sp_X3_slot 3 75), (75, zt_call kd sp_X3_shuts 4 78), (78, zt_wbin (fun x y => if x < y then y else x) 81), (81, zt_iret K)]
set_option maxRecDepth 20000 in
theorem tk_X3_lastEnd (d : Nat) (h_X3_slot : zMS 1 yX3_slot cX3_slot 3 (some .int) sp_X3_slot) (h_X3_bound : zMS 4 yX3_bound cX3_bound 5 (some .boolean) sp_X3_bound) (h_X3_opens : zMS 1 yX3_opens cX3_opens 3 (some .int) sp_X3_opens) (h_X3_shuts : zMS 2 yX3_shuts cX3_shuts 6 (some .int) sp_X3_shuts) : zTrue RX3 cX3_lastEnd 5 (some .int) (d + 5) (fun kd K => tb_X3_lastEnd kd K) := by
  intro p l e R s m args below meth c D cy A ad bl Qm K C0 hr hlocks hQ
  obtain ⟨hx, hb, hml, hown, hts, hK, hD, hA0, hN, hE, ⟨hR1, hR2⟩, hc1, hc2⟩ := id C0
  unfold tb_X3_lastEnd
  refine List.forall_mem_cons.mpr ⟨ok_aload_n hx hb rfl dd_X3_lastEnd_0, ?_⟩
  refine List.forall_mem_cons.mpr ⟨ok_iload_n hx hb rfl dd_X3_lastEnd_1, ?_⟩
  refine List.forall_mem_cons.mpr ⟨ok_iload_n hx hb rfl dd_X3_lastEnd_2, ?_⟩
  refine List.forall_mem_cons.mpr ⟨ok_callV (n := 2) zc_X3 rv_X3_slot C0 (h_X3_slot (d + 4) (by omega)) (by decide) wd_341 wd_338 wd_340 wd_6 wd_102 ⟨rfl, by decide +kernel, by decide +kernel, by decide +kernel⟩ dd_X3_lastEnd_3, ?_⟩
  refine List.forall_mem_cons.mpr ⟨ok_istore_n hx hb rfl dd_X3_lastEnd_6, ?_⟩
  refine List.forall_mem_cons.mpr ⟨ok_iload_n hx hb rfl dd_X3_lastEnd_7, ?_⟩
  refine List.forall_mem_cons.mpr ⟨ok_iconst hx hb dd_X3_lastEnd_8 (by decide), ?_⟩
  refine List.forall_mem_cons.mpr ⟨ok_icmp_ne hx hb dd_X3_lastEnd_9 (by decide), ?_⟩
  refine List.forall_mem_cons.mpr ⟨ok_iconst hx hb dd_X3_lastEnd_12 (by decide), ?_⟩
  refine List.forall_mem_cons.mpr ⟨ok_iret hx hb hr hlocks hQ dd_X3_lastEnd_13, ?_⟩
  refine List.forall_mem_cons.mpr ⟨ok_aload_n hx hb rfl dd_X3_lastEnd_14, ?_⟩
  refine List.forall_mem_cons.mpr ⟨ok_iload_n hx hb rfl dd_X3_lastEnd_15, ?_⟩
  refine List.forall_mem_cons.mpr ⟨ok_iload_n hx hb rfl dd_X3_lastEnd_16, ?_⟩
  refine List.forall_mem_cons.mpr ⟨ok_sipush hx hb dd_X3_lastEnd_17 (by decide), ?_⟩
  refine List.forall_mem_cons.mpr ⟨ok_callV (n := 3) zc_X3 rv_X3_bound C0 (h_X3_bound (d + 4) (by omega)) (by decide) wd_554 wd_591 wd_553 wd_25 wd_102 ⟨rfl, by decide +kernel, by decide +kernel, by decide +kernel⟩ dd_X3_lastEnd_20, ?_⟩
  refine List.forall_mem_cons.mpr ⟨ok_if_eq hx hb dd_X3_lastEnd_23 (by decide), ?_⟩
  refine List.forall_mem_cons.mpr ⟨ok_iconst hx hb dd_X3_lastEnd_26 (by decide), ?_⟩
  refine List.forall_mem_cons.mpr ⟨ok_iret hx hb hr hlocks hQ dd_X3_lastEnd_27, ?_⟩
  refine List.forall_mem_cons.mpr ⟨ok_aload_n hx hb rfl dd_X3_lastEnd_28, ?_⟩
  refine List.forall_mem_cons.mpr ⟨ok_aload_n hx hb rfl dd_X3_lastEnd_29, ?_⟩
  refine List.forall_mem_cons.mpr ⟨ok_getR (j := 1) hx hb hts zi_X3 hown hK zc_X3 (by decide) rfl (fun t fl h => by cases h; rfl) (hts _ wd_138) dd_X3_lastEnd_30, ?_⟩
  refine List.forall_mem_cons.mpr ⟨ok_iload_n hx hb rfl dd_X3_lastEnd_33, ?_⟩
  refine List.forall_mem_cons.mpr ⟨ok_ald (ty := 0) rfl hx hb hK (Or.inl ⟨rfl, rfl, dd_X3_lastEnd_34⟩), ?_⟩
  refine List.forall_mem_cons.mpr ⟨ok_iload_n hx hb rfl dd_X3_lastEnd_35, ?_⟩
  refine List.forall_mem_cons.mpr ⟨ok_callV (n := 2) zc_X3 rv_X3_opens C0 (h_X3_opens (d + 4) (by omega)) (by decide) wd_562 wd_559 wd_561 wd_27 wd_102 ⟨rfl, by decide +kernel, by decide +kernel, by decide +kernel⟩ dd_X3_lastEnd_36, ?_⟩
  refine List.forall_mem_cons.mpr ⟨ok_istore hx hb dd_X3_lastEnd_39, ?_⟩
  refine List.forall_mem_cons.mpr ⟨ok_iload hx hb dd_X3_lastEnd_41, ?_⟩
  refine List.forall_mem_cons.mpr ⟨ok_ldc hx hb hown (hts _ wd_563) dd_X3_lastEnd_43, ?_⟩
  refine List.forall_mem_cons.mpr ⟨ok_icmp_ne hx hb dd_X3_lastEnd_45 (by decide), ?_⟩
  refine List.forall_mem_cons.mpr ⟨ok_aload_n hx hb rfl dd_X3_lastEnd_48, ?_⟩
  refine List.forall_mem_cons.mpr ⟨ok_getI (j := 6) hx hb hts zi_X3 hown hK zc_X3 (by decide) rfl (fun t fl h => by cases h; rfl) (hts _ wd_143) dd_X3_lastEnd_49, ?_⟩
  refine List.forall_mem_cons.mpr ⟨ok_goto hx hb dd_X3_lastEnd_52 (by decide), ?_⟩
  refine List.forall_mem_cons.mpr ⟨ok_aload_n hx hb rfl dd_X3_lastEnd_55, ?_⟩
  refine List.forall_mem_cons.mpr ⟨ok_getI (j := 6) hx hb hts zi_X3 hown hK zc_X3 (by decide) rfl (fun t fl h => by cases h; rfl) (hts _ wd_143) dd_X3_lastEnd_56, ?_⟩
  refine List.forall_mem_cons.mpr ⟨ok_aload_n hx hb rfl dd_X3_lastEnd_59, ?_⟩
  refine List.forall_mem_cons.mpr ⟨ok_aload_n hx hb rfl dd_X3_lastEnd_60, ?_⟩
  refine List.forall_mem_cons.mpr ⟨ok_getR (j := 1) hx hb hts zi_X3 hown hK zc_X3 (by decide) rfl (fun t fl h => by cases h; rfl) (hts _ wd_138) dd_X3_lastEnd_61, ?_⟩
  refine List.forall_mem_cons.mpr ⟨ok_iload_n hx hb rfl dd_X3_lastEnd_64, ?_⟩
  refine List.forall_mem_cons.mpr ⟨ok_ald (ty := 0) rfl hx hb hK (Or.inl ⟨rfl, rfl, dd_X3_lastEnd_65⟩), ?_⟩
  refine List.forall_mem_cons.mpr ⟨ok_iload_n hx hb rfl dd_X3_lastEnd_66, ?_⟩
  refine List.forall_mem_cons.mpr ⟨ok_aload_n hx hb rfl dd_X3_lastEnd_67, ?_⟩
  refine List.forall_mem_cons.mpr ⟨ok_iload_n hx hb rfl dd_X3_lastEnd_68, ?_⟩
  refine List.forall_mem_cons.mpr ⟨ok_iload_n hx hb rfl dd_X3_lastEnd_69, ?_⟩
  refine List.forall_mem_cons.mpr ⟨ok_iconst hx hb dd_X3_lastEnd_70 (by decide), ?_⟩
  refine List.forall_mem_cons.mpr ⟨ok_iadd hx hb dd_X3_lastEnd_71, ?_⟩
  refine List.forall_mem_cons.mpr ⟨ok_callV (n := 2) zc_X3 rv_X3_slot C0 (h_X3_slot (d + 4) (by omega)) (by decide) wd_341 wd_338 wd_340 wd_6 wd_102 ⟨rfl, by decide +kernel, by decide +kernel, by decide +kernel⟩ dd_X3_lastEnd_72, ?_⟩
  refine List.forall_mem_cons.mpr ⟨ok_callV (n := 3) zc_X3 rv_X3_shuts C0 (h_X3_shuts (d + 4) (by omega)) (by decide) wd_567 wd_564 wd_566 wd_28 wd_102 ⟨rfl, by decide +kernel, by decide +kernel, by decide +kernel⟩ dd_X3_lastEnd_75, ?_⟩
  refine List.forall_mem_cons.mpr ⟨ok_mmax hx hb hml hown (hts _ wd_592) (hts _ wd_593) (hts _ wd_109) (hts _ wd_594) ⟨by omega, by omega⟩ ⟨hc1, hc2⟩ dd_X3_lastEnd_78, ?_⟩
  refine List.forall_mem_cons.mpr ⟨ok_iret hx hb hr hlocks hQ dd_X3_lastEnd_81, ?_⟩
  exact fun _ h => absurd h List.not_mem_nil
set_option maxRecDepth 100000 in
theorem vc_X3_lastEnd_0 {kd : Nat → Nat} {K : zK} {X : zX} (hX : ∀ (n pc : Nat) (ls : zLS) (st : List zV) (M : zM), zrun (tb_X3_lastEnd kd K) [] n X pc ls st M → X pc ls st M) {t : Nat} {c : Int32} {i : Int32} {M : zM} (hk0 : kd t = 3) (h : ∃ a1 : Sk, (RpS (M.1 t) a1) ∧ ∀ v1 : Int32, (v1.toInt = if (sk_at a1 c.toInt i.toInt).isSome then 4 * c.toInt + i.toInt else -1) → ((¬ v1 = (-1 : Int32)) → ∃ a2 : Sk, (RpS (M.1 t) a2) ∧ (0 ≤ (999 : Int32).toInt ∧ (999 : Int32).toInt < 1000000) ∧ ∀ v2 : Int32, (v2 = zp (sk_bd a2 c.toInt i.toInt (999 : Int32).toInt = true)) → ((v2 = 0) → (zin (kd t) 2 0 v1) ∧ ∃ a3 : Sk, (RpS (M.1 t) a3) ∧ ∃ c3 : Nat, ∃ i3 : Nat, ∃ l3 : Ly, (c3 < 6) ∧ ((a3.1 c3)[i3]? = some l3) ∧ (v1.toInt = 4 * (c3 : Int) + i3) ∧ ∀ v3 : Int32, (v3.toInt = opn (M.1 t 2 (v1).toNatClampNeg).toInt l3) → ((¬ v3 = (1000000 : Int32)) → (zin (kd t) 2 0 v1) ∧ ∃ a4 : Sk, (RpS (M.1 t) a4) ∧ ∀ v4 : Int32, (v4.toInt = if (sk_at a4 c.toInt (i + (1 : Int32)).toInt).isSome then 4 * c.toInt + (i + (1 : Int32)).toInt else -1) → ∃ a5 : Sk, (RpS (M.1 t) a5) ∧ ∃ c5 : Nat, ∃ i5 : Nat, ∃ l5 : Ly, (c5 < 6) ∧ ((a5.1 c5)[i5]? = some l5) ∧ (v1.toInt = 4 * (c5 : Int) + i5) ∧ (v4.toInt = if ((a5.1 c5)[i5 + 1]?).isSome then 4 * (c5 : Int) + i5 + 1 else -1) ∧ ∀ v5 : Int32, (v5.toInt = sht (M.1 t 2 (v1).toNatClampNeg).toInt l5 ((a5.1 c5)[i5 + 1]?)) → K (some (zI (if (M.1 t 0 6) < v5 then v5 else (M.1 t 0 6)))) M) ∧ ((v3 = (1000000 : Int32)) → K (some (zI (M.1 t 0 6))) M)) ∧ ((¬ v2 = 0) → K (some (zI ((-1 : Int32)))) M)) ∧ ((v1 = (-1 : Int32)) → K (some (zI ((-1 : Int32)))) M)) : X 0 [some (zR t 0), some (zI (c)), some (zI (i)), none, none] [] M := hX 43 0 _ [] M (show (kd t = 3) ∧ ∃ a1 : Sk, (RpS (M.1 t) a1) ∧ ∀ v1 : Int32, (v1.toInt = if (sk_at a1 c.toInt i.toInt).isSome then 4 * c.toInt + i.toInt else -1) → ((¬ v1 = (-1 : Int32)) → (kd t = 3) ∧ ∃ a2 : Sk, (RpS (M.1 t) a2) ∧ (0 ≤ (999 : Int32).toInt ∧ (999 : Int32).toInt < 1000000) ∧ ∀ v2 : Int32, (v2 = zp (sk_bd a2 c.toInt i.toInt (999 : Int32).toInt = true)) → ((v2 = 0) → (kd t = 3) ∧ (zin (kd t) 2 0 v1) ∧ (kd t = 3) ∧ ∃ a3 : Sk, (RpS (M.1 t) a3) ∧ ∃ c3 : Nat, ∃ i3 : Nat, ∃ l3 : Ly, (c3 < 6) ∧ ((a3.1 c3)[i3]? = some l3) ∧ (v1.toInt = 4 * (c3 : Int) + i3) ∧ ∀ v3 : Int32, (v3.toInt = opn (M.1 t 2 (v1).toNatClampNeg).toInt l3) → ((¬ v3 = (1000000 : Int32)) → (kd t = 3) ∧ (kd t = 3) ∧ (zin (kd t) 2 0 v1) ∧ (kd t = 3) ∧ ∃ a4 : Sk, (RpS (M.1 t) a4) ∧ ∀ v4 : Int32, (v4.toInt = if (sk_at a4 c.toInt (i + (1 : Int32)).toInt).isSome then 4 * c.toInt + (i + (1 : Int32)).toInt else -1) → (kd t = 3) ∧ ∃ a5 : Sk, (RpS (M.1 t) a5) ∧ ∃ c5 : Nat, ∃ i5 : Nat, ∃ l5 : Ly, (c5 < 6) ∧ ((a5.1 c5)[i5]? = some l5) ∧ (v1.toInt = 4 * (c5 : Int) + i5) ∧ (v4.toInt = if ((a5.1 c5)[i5 + 1]?).isSome then 4 * (c5 : Int) + i5 + 1 else -1) ∧ ∀ v5 : Int32, (v5.toInt = sht (M.1 t 2 (v1).toNatClampNeg).toInt l5 ((a5.1 c5)[i5 + 1]?)) → K (some (zI (if (M.1 t 0 6) < v5 then v5 else (M.1 t 0 6)))) M) ∧ ((v3 = (1000000 : Int32)) → (kd t = 3) ∧ K (some (zI (M.1 t 0 6))) M)) ∧ ((¬ v2 = 0) → K (some (zI ((-1 : Int32)))) M)) ∧ ((v1 = (-1 : Int32)) → K (some (zI ((-1 : Int32)))) M) from ⟨hk0, h.elim (fun a1 h => ⟨a1, ⟨h.1, have h := h.2; fun v1 => have h := h v1; fun q => have h := h q; ⟨fun q => have h := h.1 q; ⟨hk0, h.elim (fun a2 h => ⟨a2, ⟨h.1, have h := h.2; ⟨h.1, have h := h.2; fun v2 => have h := h v2; fun q => have h := h q; ⟨fun q => have h := h.1 q; ⟨hk0, ⟨h.1, have h := h.2; ⟨hk0, h.elim (fun a3 h => ⟨a3, ⟨h.1, have h := h.2; h.elim (fun c3 h => ⟨c3, h.elim (fun i3 h => ⟨i3, h.elim (fun l3 h => ⟨l3, ⟨h.1, have h := h.2; ⟨h.1, have h := h.2; ⟨h.1, have h := h.2; fun v3 => have h := h v3; fun q => have h := h q; ⟨fun q => have h := h.1 q; ⟨hk0, ⟨hk0, ⟨h.1, have h := h.2; ⟨hk0, h.elim (fun a4 h => ⟨a4, ⟨h.1, have h := h.2; fun v4 => have h := h v4; fun q => have h := h q; ⟨hk0, h.elim (fun a5 h => ⟨a5, ⟨h.1, have h := h.2; h.elim (fun c5 h => ⟨c5, h.elim (fun i5 h => ⟨i5, h.elim (fun l5 h => ⟨l5, ⟨h.1, have h := h.2; ⟨h.1, have h := h.2; ⟨h.1, have h := h.2; ⟨h.1, have h := h.2; fun v5 => have h := h v5; fun q => have h := h q; h⟩⟩⟩⟩⟩)⟩)⟩)⟩⟩)⟩⟩⟩)⟩⟩⟩⟩, fun q => have h := h.2 q; ⟨hk0, h⟩⟩⟩⟩⟩⟩)⟩)⟩)⟩⟩)⟩⟩⟩, fun q => have h := h.2 q; h⟩⟩⟩⟩)⟩, fun q => have h := h.2 q; h⟩⟩⟩)⟩)
def sp_X3_lawOfCell : zSpec := fun kd as M K => match as with
  | [.inr (.inr (.inl (t, 0))), .inl c, .inl g, .inl y] => (kd t = 3) ∧ ∃ a : Sk, (RpS (M.1 t) a) ∧ (0 ≤ c.toInt ∧ c.toInt < 6) ∧ (0 ≤ y.toInt ∧ y.toInt < 1000000) ∧ ∀ v : Int32, (v.toInt = sk_lawC a c.toInt g.toInt y.toInt) → K (some (.inl v)) M
  | _ => False
theorem rv_X3_lawOfCell : zrv sp_X3_lawOfCell 3 3 := by
  intro kd as M K h
  unfold sp_X3_lawOfCell at h
  split at h
  · exact ⟨_, _, rfl, h.1⟩
  · exact h.elim
theorem dd_X3_lawOfCell_0 : decode cX3_lawOfCell 0 = .ok (.iconst 0, 1) := by decide +kernel
theorem dd_X3_lawOfCell_1 : decode cX3_lawOfCell 1 = .ok (.istore 4, 2) := by decide +kernel
theorem dd_X3_lawOfCell_3 : decode cX3_lawOfCell 3 = .ok (.iconst 0, 1) := by decide +kernel
theorem dd_X3_lawOfCell_4 : decode cX3_lawOfCell 4 = .ok (.istore 5, 2) := by decide +kernel
theorem dd_X3_lawOfCell_6 : decode cX3_lawOfCell 6 = .ok (.iload 5, 2) := by decide +kernel
theorem dd_X3_lawOfCell_8 : decode cX3_lawOfCell 8 = .ok (.iconst 4, 1) := by decide +kernel
theorem dd_X3_lawOfCell_9 : decode cX3_lawOfCell 9 = .ok (.if_icmp .ge 74, 3) := by decide +kernel
theorem dd_X3_lawOfCell_12 : decode cX3_lawOfCell 12 = .ok (.aload_n 0, 1) := by decide +kernel
theorem dd_X3_lawOfCell_13 : decode cX3_lawOfCell 13 = .ok (.iload_n 1, 1) := by decide +kernel
theorem dd_X3_lawOfCell_14 : decode cX3_lawOfCell 14 = .ok (.iload 5, 2) := by decide +kernel
theorem dd_X3_lawOfCell_16 : decode cX3_lawOfCell 16 = .ok (.invokevirtual 40, 3) := by decide +kernel
theorem dd_X3_lawOfCell_19 : decode cX3_lawOfCell 19 = .ok (.istore 6, 2) := by decide +kernel
theorem dd_X3_lawOfCell_21 : decode cX3_lawOfCell 21 = .ok (.iload 6, 2) := by decide +kernel
theorem dd_X3_lawOfCell_23 : decode cX3_lawOfCell 23 = .ok (.iconst (-1), 1) := by decide +kernel
theorem dd_X3_lawOfCell_24 : decode cX3_lawOfCell 24 = .ok (.if_icmp .eq 53, 3) := by decide +kernel
theorem dd_X3_lawOfCell_27 : decode cX3_lawOfCell 27 = .ok (.aload_n 0, 1) := by decide +kernel
theorem dd_X3_lawOfCell_28 : decode cX3_lawOfCell 28 = .ok (.getfield 18, 3) := by decide +kernel
theorem dd_X3_lawOfCell_31 : decode cX3_lawOfCell 31 = .ok (.iload 6, 2) := by decide +kernel
theorem dd_X3_lawOfCell_33 : decode cX3_lawOfCell 33 = .ok (.iaload, 1) := by decide +kernel
theorem dd_X3_lawOfCell_34 : decode cX3_lawOfCell 34 = .ok (.iload_n 2, 1) := by decide +kernel
theorem dd_X3_lawOfCell_35 : decode cX3_lawOfCell 35 = .ok (.if_icmp .ne 42, 3) := by decide +kernel
theorem dd_X3_lawOfCell_38 : decode cX3_lawOfCell 38 = .ok (.aload_n 0, 1) := by decide +kernel
theorem dd_X3_lawOfCell_39 : decode cX3_lawOfCell 39 = .ok (.aload_n 0, 1) := by decide +kernel
theorem dd_X3_lawOfCell_40 : decode cX3_lawOfCell 40 = .ok (.getfield 15, 3) := by decide +kernel
theorem dd_X3_lawOfCell_43 : decode cX3_lawOfCell 43 = .ok (.iload 6, 2) := by decide +kernel
theorem dd_X3_lawOfCell_45 : decode cX3_lawOfCell 45 = .ok (.iaload, 1) := by decide +kernel
theorem dd_X3_lawOfCell_46 : decode cX3_lawOfCell 46 = .ok (.iload_n 1, 1) := by decide +kernel
theorem dd_X3_lawOfCell_47 : decode cX3_lawOfCell 47 = .ok (.iload 5, 2) := by decide +kernel
theorem dd_X3_lawOfCell_49 : decode cX3_lawOfCell 49 = .ok (.iload_n 3, 1) := by decide +kernel
theorem dd_X3_lawOfCell_50 : decode cX3_lawOfCell 50 = .ok (.invokevirtual 84, 3) := by decide +kernel
theorem dd_X3_lawOfCell_53 : decode cX3_lawOfCell 53 = .ok (.ifCond .eq 24, 3) := by decide +kernel
theorem dd_X3_lawOfCell_56 : decode cX3_lawOfCell 56 = .ok (.iload 4, 2) := by decide +kernel
theorem dd_X3_lawOfCell_58 : decode cX3_lawOfCell 58 = .ok (.aload_n 0, 1) := by decide +kernel
theorem dd_X3_lawOfCell_59 : decode cX3_lawOfCell 59 = .ok (.getfield 21, 3) := by decide +kernel
theorem dd_X3_lawOfCell_62 : decode cX3_lawOfCell 62 = .ok (.iload 6, 2) := by decide +kernel
theorem dd_X3_lawOfCell_64 : decode cX3_lawOfCell 64 = .ok (.iaload, 1) := by decide +kernel
theorem dd_X3_lawOfCell_65 : decode cX3_lawOfCell 65 = .ok (.iconst 1, 1) := by decide +kernel
theorem dd_X3_lawOfCell_66 : decode cX3_lawOfCell 66 = .ok (.if_icmp .ne 7, 3) := by decide +kernel
theorem dd_X3_lawOfCell_69 : decode cX3_lawOfCell 69 = .ok (.iconst 1, 1) := by decide +kernel
theorem dd_X3_lawOfCell_70 : decode cX3_lawOfCell 70 = .ok (.goto 4, 3) := by decide +kernel
theorem dd_X3_lawOfCell_73 : decode cX3_lawOfCell 73 = .ok (.iconst 2, 1) := by decide +kernel
theorem dd_X3_lawOfCell_74 : decode cX3_lawOfCell 74 = .ok (.ior, 1) := by decide +kernel
theorem dd_X3_lawOfCell_75 : decode cX3_lawOfCell 75 = .ok (.istore 4, 2) := by decide +kernel
theorem dd_X3_lawOfCell_77 : decode cX3_lawOfCell 77 = .ok (.iinc 5 1, 3) := by decide +kernel
theorem dd_X3_lawOfCell_80 : decode cX3_lawOfCell 80 = .ok (.goto (-74), 3) := by decide +kernel
theorem dd_X3_lawOfCell_83 : decode cX3_lawOfCell 83 = .ok (.iload 4, 2) := by decide +kernel
theorem dd_X3_lawOfCell_85 : decode cX3_lawOfCell 85 = .ok (.ireturn, 1) := by decide +kernel
def tb_X3_lawOfCell (kd : Nat → Nat) (K : zK) : zTab := [(0, zt_const (zI 0) 1), (1, zt_istore 4 3), (3, zt_const (zI 0) 4), (4, zt_istore 5 6), (6, zt_iload 5 8), (8, zt_const (zI 4) 9), (9, zt_icmp (fun x y => y ≤ x) (fun x y => ¬ y ≤ x) 83 12), (12, zt_aload 0 13), (13, zt_iload 1 14), (14, zt_iload 5 16), (16, zt_call kd sp_X3_slot 3 19), (19, zt_istore 6 21), (21, zt_iload 6 23), (23, zt_const (zI (-1)) 24), (24, zt_icmp (fun x y => x = y) (fun x y => ¬ x = y) 77 27), (27, zt_aload 0 28), (28, zt_getR kd 3 0 3 31), (31, zt_iload 6 33), (33, zt_ald kd 0 34), (34, zt_iload 2 35), (35, zt_icmp (fun x y => ¬ x = y) (fun x y => x = y) 77 38), (38, zt_aload 0 39), (39, zt_aload 0 40), (40, zt_getR kd 3 0 2 43), (43, zt_iload 6 45), (45, zt_ald kd 0 46), (46, zt_iload 1 47), (47, zt_iload 5 49), (49, zt_iload 3 50), (50, zt_call kd sp_X3_wouldBind 5 53), (53, zt_if (fun x => x = 0) (fun x => ¬ x = 0) 77 56), (56, zt_iload 4 58), (58, zt_aload 0 59), (59, zt_getR kd 3 0 4 62), (62, zt_iload 6 64), (64, zt_ald kd 0 65), (65, zt_const (zI 1) 66), (66, zt_icmp (fun x y => ¬ x = y) (fun x y => x = y) 73 69), (69, zt_const (zI 1) 70), (70, zt_goto 74), (73, zt_const (zI 2) 74), (74, zt_bin (fun x y => x ||| y) 75), (75, zt_istore 4 77), (77, zt_iinc 5 1 80), (80, zt_goto 6), (83, zt_iload 4 85), (85, zt_iret K)]
set_option maxRecDepth 20000 in
theorem tk_X3_lawOfCell (d : Nat) (h_X3_slot : zMS 1 yX3_slot cX3_slot 3 (some .int) sp_X3_slot) (h_X3_wouldBind : zMS 3 yX3_wouldBind cX3_wouldBind 6 (some .boolean) sp_X3_wouldBind) : zTrue RX3 cX3_lawOfCell 7 (some .int) (d + 4) (fun kd K => tb_X3_lawOfCell kd K) := by
  intro p l e R s m args below meth c D cy A ad bl Qm K C0 hr hlocks hQ
  obtain ⟨hx, hb, hml, hown, hts, hK, hD, hA0, hN, hE, ⟨hR1, hR2⟩, hc1, hc2⟩ := id C0
  unfold tb_X3_lawOfCell
  refine List.forall_mem_cons.mpr ⟨ok_iconst hx hb dd_X3_lawOfCell_0 (by decide), ?_⟩
  refine List.forall_mem_cons.mpr ⟨ok_istore hx hb dd_X3_lawOfCell_1, ?_⟩
  refine List.forall_mem_cons.mpr ⟨ok_iconst hx hb dd_X3_lawOfCell_3 (by decide), ?_⟩
  refine List.forall_mem_cons.mpr ⟨ok_istore hx hb dd_X3_lawOfCell_4, ?_⟩
  refine List.forall_mem_cons.mpr ⟨ok_iload hx hb dd_X3_lawOfCell_6, ?_⟩
  refine List.forall_mem_cons.mpr ⟨ok_iconst hx hb dd_X3_lawOfCell_8 (by decide), ?_⟩
  refine List.forall_mem_cons.mpr ⟨ok_icmp_ge hx hb dd_X3_lawOfCell_9 (by decide), ?_⟩
  refine List.forall_mem_cons.mpr ⟨ok_aload_n hx hb rfl dd_X3_lawOfCell_12, ?_⟩
  refine List.forall_mem_cons.mpr ⟨ok_iload_n hx hb rfl dd_X3_lawOfCell_13, ?_⟩
  refine List.forall_mem_cons.mpr ⟨ok_iload hx hb dd_X3_lawOfCell_14, ?_⟩
  refine List.forall_mem_cons.mpr ⟨ok_callV (n := 2) zc_X3 rv_X3_slot C0 (h_X3_slot (d + 3) (by omega)) (by decide) wd_341 wd_338 wd_340 wd_6 wd_102 ⟨rfl, by decide +kernel, by decide +kernel, by decide +kernel⟩ dd_X3_lawOfCell_16, ?_⟩
  refine List.forall_mem_cons.mpr ⟨ok_istore hx hb dd_X3_lawOfCell_19, ?_⟩
  refine List.forall_mem_cons.mpr ⟨ok_iload hx hb dd_X3_lawOfCell_21, ?_⟩
  refine List.forall_mem_cons.mpr ⟨ok_iconst hx hb dd_X3_lawOfCell_23 (by decide), ?_⟩
  refine List.forall_mem_cons.mpr ⟨ok_icmp_eq hx hb dd_X3_lawOfCell_24 (by decide), ?_⟩
  refine List.forall_mem_cons.mpr ⟨ok_aload_n hx hb rfl dd_X3_lawOfCell_27, ?_⟩
  refine List.forall_mem_cons.mpr ⟨ok_getR (j := 2) hx hb hts zi_X3 hown hK zc_X3 (by decide) rfl (fun t fl h => by cases h; rfl) (hts _ wd_139) dd_X3_lawOfCell_28, ?_⟩
  refine List.forall_mem_cons.mpr ⟨ok_iload hx hb dd_X3_lawOfCell_31, ?_⟩
  refine List.forall_mem_cons.mpr ⟨ok_ald (ty := 0) rfl hx hb hK (Or.inl ⟨rfl, rfl, dd_X3_lawOfCell_33⟩), ?_⟩
  refine List.forall_mem_cons.mpr ⟨ok_iload_n hx hb rfl dd_X3_lawOfCell_34, ?_⟩
  refine List.forall_mem_cons.mpr ⟨ok_icmp_ne hx hb dd_X3_lawOfCell_35 (by decide), ?_⟩
  refine List.forall_mem_cons.mpr ⟨ok_aload_n hx hb rfl dd_X3_lawOfCell_38, ?_⟩
  refine List.forall_mem_cons.mpr ⟨ok_aload_n hx hb rfl dd_X3_lawOfCell_39, ?_⟩
  refine List.forall_mem_cons.mpr ⟨ok_getR (j := 1) hx hb hts zi_X3 hown hK zc_X3 (by decide) rfl (fun t fl h => by cases h; rfl) (hts _ wd_138) dd_X3_lawOfCell_40, ?_⟩
  refine List.forall_mem_cons.mpr ⟨ok_iload hx hb dd_X3_lawOfCell_43, ?_⟩
  refine List.forall_mem_cons.mpr ⟨ok_ald (ty := 0) rfl hx hb hK (Or.inl ⟨rfl, rfl, dd_X3_lawOfCell_45⟩), ?_⟩
  refine List.forall_mem_cons.mpr ⟨ok_iload_n hx hb rfl dd_X3_lawOfCell_46, ?_⟩
  refine List.forall_mem_cons.mpr ⟨ok_iload hx hb dd_X3_lawOfCell_47, ?_⟩
  refine List.forall_mem_cons.mpr ⟨ok_iload_n hx hb rfl dd_X3_lawOfCell_49, ?_⟩
  refine List.forall_mem_cons.mpr ⟨ok_callV (n := 4) zc_X3 rv_X3_wouldBind C0 (h_X3_wouldBind (d + 3) (by omega)) (by decide) wd_558 wd_555 wd_557 wd_26 wd_102 ⟨rfl, by decide +kernel, by decide +kernel, by decide +kernel⟩ dd_X3_lawOfCell_50, ?_⟩
  refine List.forall_mem_cons.mpr ⟨ok_if_eq hx hb dd_X3_lawOfCell_53 (by decide), ?_⟩
  refine List.forall_mem_cons.mpr ⟨ok_iload hx hb dd_X3_lawOfCell_56, ?_⟩
  refine List.forall_mem_cons.mpr ⟨ok_aload_n hx hb rfl dd_X3_lawOfCell_58, ?_⟩
  refine List.forall_mem_cons.mpr ⟨ok_getR (j := 3) hx hb hts zi_X3 hown hK zc_X3 (by decide) rfl (fun t fl h => by cases h; rfl) (hts _ wd_140) dd_X3_lawOfCell_59, ?_⟩
  refine List.forall_mem_cons.mpr ⟨ok_iload hx hb dd_X3_lawOfCell_62, ?_⟩
  refine List.forall_mem_cons.mpr ⟨ok_ald (ty := 0) rfl hx hb hK (Or.inl ⟨rfl, rfl, dd_X3_lawOfCell_64⟩), ?_⟩
  refine List.forall_mem_cons.mpr ⟨ok_iconst hx hb dd_X3_lawOfCell_65 (by decide), ?_⟩
  refine List.forall_mem_cons.mpr ⟨ok_icmp_ne hx hb dd_X3_lawOfCell_66 (by decide), ?_⟩
  refine List.forall_mem_cons.mpr ⟨ok_iconst hx hb dd_X3_lawOfCell_69 (by decide), ?_⟩
  refine List.forall_mem_cons.mpr ⟨ok_goto hx hb dd_X3_lawOfCell_70 (by decide), ?_⟩
  refine List.forall_mem_cons.mpr ⟨ok_iconst hx hb dd_X3_lawOfCell_73 (by decide), ?_⟩
  refine List.forall_mem_cons.mpr ⟨ok_ior hx hb dd_X3_lawOfCell_74, ?_⟩
  refine List.forall_mem_cons.mpr ⟨ok_istore hx hb dd_X3_lawOfCell_75, ?_⟩
  refine List.forall_mem_cons.mpr ⟨ok_iinc hx hb dd_X3_lawOfCell_77 (by decide), ?_⟩
  refine List.forall_mem_cons.mpr ⟨ok_goto hx hb dd_X3_lawOfCell_80 (by decide), ?_⟩
  refine List.forall_mem_cons.mpr ⟨ok_iload hx hb dd_X3_lawOfCell_83, ?_⟩
  refine List.forall_mem_cons.mpr ⟨ok_iret hx hb hr hlocks hQ dd_X3_lawOfCell_85, ?_⟩
  exact fun _ h => absurd h List.not_mem_nil
set_option maxRecDepth 100000 in
theorem vc_X3_lawOfCell_0 {kd : Nat → Nat} {K : zK} {X : zX} (hX : ∀ (n pc : Nat) (ls : zLS) (st : List zV) (M : zM), zrun (tb_X3_lawOfCell kd K) [(6, [6])] n X pc ls st M → X pc ls st M) {t : Nat} {c : Int32} {g : Int32} {y : Int32} {M : zM}  (h : X 6 [some (zR t 0), some (zI (c)), some (zI (g)), some (zI (y)), some (zI ((0 : Int32))), some (zI ((0 : Int32))), none] [] M) : X 0 [some (zR t 0), some (zI (c)), some (zI (g)), some (zI (y)), none, none, none] [] M := hX 6 0 _ [] M (show X 6 [some (zR t 0), some (zI (c)), some (zI (g)), some (zI (y)), some (zI ((0 : Int32))), some (zI ((0 : Int32))), none] [] M from h)
set_option maxRecDepth 100000 in
theorem vc_X3_lawOfCell_6 {kd : Nat → Nat} {K : zK} {X : zX} (hX : ∀ (n pc : Nat) (ls : zLS) (st : List zV) (M : zM), zrun (tb_X3_lawOfCell kd K) [(6, [6])] n X pc ls st M → X pc ls st M) {t : Nat} {c : Int32} {g : Int32} {y : Int32} {w : Int32} {i : Int32} {M : zM} (hk0 : kd t = 3) (h : (((4 : Int32) ≤ i) → K (some (zI (w))) M) ∧ ((¬ (4 : Int32) ≤ i) → ∃ a1 : Sk, (RpS (M.1 t) a1) ∧ ∀ v1 : Int32, (v1.toInt = if (sk_at a1 c.toInt i.toInt).isSome then 4 * c.toInt + i.toInt else -1) → ((v1 = (-1 : Int32)) → X 6 [some (zR t 0), some (zI (c)), some (zI (g)), some (zI (y)), some (zI (w)), some (zI (i + 1)), none] [] M) ∧ ((¬ v1 = (-1 : Int32)) → (zin (kd t) 3 0 v1) ∧ ((¬ (M.1 t 3 (v1).toNatClampNeg) = g) → X 6 [some (zR t 0), some (zI (c)), some (zI (g)), some (zI (y)), some (zI (w)), some (zI (i + 1)), none] [] M) ∧ (((M.1 t 3 (v1).toNatClampNeg) = g) → (zin (kd t) 2 0 v1) ∧ ∃ a2 : Sk, (RpS (M.1 t) a2) ∧ ∃ l2 : Ly, (sk_at a2 c.toInt i.toInt = some l2) ∧ (0 ≤ y.toInt ∧ y.toInt < 1000000) ∧ ∀ v2 : Int32, (v2 = zp (bnd (M.1 t 2 (v1).toNatClampNeg).toInt l2 (sk_at a2 c.toInt (i.toInt + 1)) y.toInt = true)) → ((v2 = 0) → X 6 [some (zR t 0), some (zI (c)), some (zI (g)), some (zI (y)), some (zI (w)), some (zI (i + 1)), none] [] M) ∧ ((¬ v2 = 0) → (zin (kd t) 4 0 v1) ∧ ((¬ (M.1 t 4 (v1).toNatClampNeg) = (1 : Int32)) → X 6 [some (zR t 0), some (zI (c)), some (zI (g)), some (zI (y)), some (zI (w ||| (2 : Int32))), some (zI (i + 1)), none] [] M) ∧ (((M.1 t 4 (v1).toNatClampNeg) = (1 : Int32)) → X 6 [some (zR t 0), some (zI (c)), some (zI (g)), some (zI (y)), some (zI (w ||| (1 : Int32))), some (zI (i + 1)), none] [] M)))))) : X 6 [some (zR t 0), some (zI (c)), some (zI (g)), some (zI (y)), some (zI (w)), some (zI (i)), none] [] M := hX 42 6 _ [] M (show (((4 : Int32) ≤ i) → K (some (zI (w))) M) ∧ ((¬ (4 : Int32) ≤ i) → (kd t = 3) ∧ ∃ a1 : Sk, (RpS (M.1 t) a1) ∧ ∀ v1 : Int32, (v1.toInt = if (sk_at a1 c.toInt i.toInt).isSome then 4 * c.toInt + i.toInt else -1) → ((v1 = (-1 : Int32)) → X 6 [some (zR t 0), some (zI (c)), some (zI (g)), some (zI (y)), some (zI (w)), some (zI (i + 1)), none] [] M) ∧ ((¬ v1 = (-1 : Int32)) → (kd t = 3) ∧ (zin (kd t) 3 0 v1) ∧ ((¬ (M.1 t 3 (v1).toNatClampNeg) = g) → X 6 [some (zR t 0), some (zI (c)), some (zI (g)), some (zI (y)), some (zI (w)), some (zI (i + 1)), none] [] M) ∧ (((M.1 t 3 (v1).toNatClampNeg) = g) → (kd t = 3) ∧ (zin (kd t) 2 0 v1) ∧ (kd t = 3) ∧ ∃ a2 : Sk, (RpS (M.1 t) a2) ∧ ∃ l2 : Ly, (sk_at a2 c.toInt i.toInt = some l2) ∧ (0 ≤ y.toInt ∧ y.toInt < 1000000) ∧ ∀ v2 : Int32, (v2 = zp (bnd (M.1 t 2 (v1).toNatClampNeg).toInt l2 (sk_at a2 c.toInt (i.toInt + 1)) y.toInt = true)) → ((v2 = 0) → X 6 [some (zR t 0), some (zI (c)), some (zI (g)), some (zI (y)), some (zI (w)), some (zI (i + 1)), none] [] M) ∧ ((¬ v2 = 0) → (kd t = 3) ∧ (zin (kd t) 4 0 v1) ∧ ((¬ (M.1 t 4 (v1).toNatClampNeg) = (1 : Int32)) → X 6 [some (zR t 0), some (zI (c)), some (zI (g)), some (zI (y)), some (zI (w ||| (2 : Int32))), some (zI (i + 1)), none] [] M) ∧ (((M.1 t 4 (v1).toNatClampNeg) = (1 : Int32)) → X 6 [some (zR t 0), some (zI (c)), some (zI (g)), some (zI (y)), some (zI (w ||| (1 : Int32))), some (zI (i + 1)), none] [] M))))) from ⟨fun q => have h := h.1 q; h, fun q => have h := h.2 q; ⟨hk0, h.elim (fun a1 h => ⟨a1, ⟨h.1, have h := h.2; fun v1 => have h := h v1; fun q => have h := h q; ⟨fun q => have h := h.1 q; h, fun q => have h := h.2 q; ⟨hk0, ⟨h.1, have h := h.2; ⟨fun q => have h := h.1 q; h, fun q => have h := h.2 q; ⟨hk0, ⟨h.1, have h := h.2; ⟨hk0, h.elim (fun a2 h => ⟨a2, ⟨h.1, have h := h.2; h.elim (fun l2 h => ⟨l2, ⟨h.1, have h := h.2; ⟨h.1, have h := h.2; fun v2 => have h := h v2; fun q => have h := h q; ⟨fun q => have h := h.1 q; h, fun q => have h := h.2 q; ⟨hk0, ⟨h.1, have h := h.2; ⟨fun q => have h := h.1 q; h, fun q => have h := h.2 q; h⟩⟩⟩⟩⟩⟩⟩)⟩⟩)⟩⟩⟩⟩⟩⟩⟩⟩⟩)⟩⟩)
def sp_X3_law : zSpec := fun kd as M K => match as with
  | [.inr (.inr (.inl (t, 0))), .inl g, .inl y] => (kd t = 3) ∧ ∃ a : Sk, (RpS (M.1 t) a) ∧ (0 ≤ y.toInt ∧ y.toInt < 1000000) ∧ ∀ v : Int32, (v.toInt = sk_law a g.toInt y.toInt) → K (some (.inl v)) M
  | _ => False
theorem rv_X3_law : zrv sp_X3_law 3 2 := by
  intro kd as M K h
  unfold sp_X3_law at h
  split at h
  · exact ⟨_, _, rfl, h.1⟩
  · exact h.elim
theorem dd_X3_law_0 : decode cX3_law 0 = .ok (.iconst 0, 1) := by decide +kernel
theorem dd_X3_law_1 : decode cX3_law 1 = .ok (.istore_n 3, 1) := by decide +kernel
theorem dd_X3_law_2 : decode cX3_law 2 = .ok (.iconst 0, 1) := by decide +kernel
theorem dd_X3_law_3 : decode cX3_law 3 = .ok (.istore 4, 2) := by decide +kernel
theorem dd_X3_law_5 : decode cX3_law 5 = .ok (.iload 4, 2) := by decide +kernel
theorem dd_X3_law_7 : decode cX3_law 7 = .ok (.bipush 6, 2) := by decide +kernel
theorem dd_X3_law_9 : decode cX3_law 9 = .ok (.if_icmp .ge 20, 3) := by decide +kernel
theorem dd_X3_law_12 : decode cX3_law 12 = .ok (.iload_n 3, 1) := by decide +kernel
theorem dd_X3_law_13 : decode cX3_law 13 = .ok (.aload_n 0, 1) := by decide +kernel
theorem dd_X3_law_14 : decode cX3_law 14 = .ok (.iload 4, 2) := by decide +kernel
theorem dd_X3_law_16 : decode cX3_law 16 = .ok (.iload_n 1, 1) := by decide +kernel
theorem dd_X3_law_17 : decode cX3_law 17 = .ok (.iload_n 2, 1) := by decide +kernel
theorem dd_X3_law_18 : decode cX3_law 18 = .ok (.invokevirtual 95, 3) := by decide +kernel
theorem dd_X3_law_21 : decode cX3_law 21 = .ok (.ior, 1) := by decide +kernel
theorem dd_X3_law_22 : decode cX3_law 22 = .ok (.istore_n 3, 1) := by decide +kernel
theorem dd_X3_law_23 : decode cX3_law 23 = .ok (.iinc 4 1, 3) := by decide +kernel
theorem dd_X3_law_26 : decode cX3_law 26 = .ok (.goto (-21), 3) := by decide +kernel
theorem dd_X3_law_29 : decode cX3_law 29 = .ok (.iload_n 3, 1) := by decide +kernel
theorem dd_X3_law_30 : decode cX3_law 30 = .ok (.ireturn, 1) := by decide +kernel
def tb_X3_law (kd : Nat → Nat) (K : zK) : zTab := [(0, zt_const (zI 0) 1), (1, zt_istore 3 2), (2, zt_const (zI 0) 3), (3, zt_istore 4 5), (5, zt_iload 4 7), (7, zt_const (zI 6) 9), (9, zt_icmp (fun x y => y ≤ x) (fun x y => ¬ y ≤ x) 29 12), (12, zt_iload 3 13), (13, zt_aload 0 14), (14, zt_iload 4 16), (16, zt_iload 1 17), (17, zt_iload 2 18), (18, zt_call kd sp_X3_lawOfCell 4 21), (21, zt_bin (fun x y => x ||| y) 22), (22, zt_istore 3 23), (23, zt_iinc 4 1 26), (26, zt_goto 5), (29, zt_iload 3 30), (30, zt_iret K)]
set_option maxRecDepth 20000 in
theorem tk_X3_law (d : Nat) (h_X3_lawOfCell : zMS 4 yX3_lawOfCell cX3_lawOfCell 7 (some .int) sp_X3_lawOfCell) : zTrue RX3 cX3_law 5 (some .int) (d + 5) (fun kd K => tb_X3_law kd K) := by
  intro p l e R s m args below meth c D cy A ad bl Qm K C0 hr hlocks hQ
  obtain ⟨hx, hb, hml, hown, hts, hK, hD, hA0, hN, hE, ⟨hR1, hR2⟩, hc1, hc2⟩ := id C0
  unfold tb_X3_law
  refine List.forall_mem_cons.mpr ⟨ok_iconst hx hb dd_X3_law_0 (by decide), ?_⟩
  refine List.forall_mem_cons.mpr ⟨ok_istore_n hx hb rfl dd_X3_law_1, ?_⟩
  refine List.forall_mem_cons.mpr ⟨ok_iconst hx hb dd_X3_law_2 (by decide), ?_⟩
  refine List.forall_mem_cons.mpr ⟨ok_istore hx hb dd_X3_law_3, ?_⟩
  refine List.forall_mem_cons.mpr ⟨ok_iload hx hb dd_X3_law_5, ?_⟩
  refine List.forall_mem_cons.mpr ⟨ok_bipush hx hb dd_X3_law_7 (by decide), ?_⟩
  refine List.forall_mem_cons.mpr ⟨ok_icmp_ge hx hb dd_X3_law_9 (by decide), ?_⟩
  refine List.forall_mem_cons.mpr ⟨ok_iload_n hx hb rfl dd_X3_law_12, ?_⟩
  refine List.forall_mem_cons.mpr ⟨ok_aload_n hx hb rfl dd_X3_law_13, ?_⟩
  refine List.forall_mem_cons.mpr ⟨ok_iload hx hb dd_X3_law_14, ?_⟩
  refine List.forall_mem_cons.mpr ⟨ok_iload_n hx hb rfl dd_X3_law_16, ?_⟩
  refine List.forall_mem_cons.mpr ⟨ok_iload_n hx hb rfl dd_X3_law_17, ?_⟩
  refine List.forall_mem_cons.mpr ⟨ok_callV (n := 3) zc_X3 rv_X3_lawOfCell C0 (h_X3_lawOfCell (d + 4) (by omega)) (by decide) wd_582 wd_579 wd_581 wd_30 wd_102 ⟨rfl, by decide +kernel, by decide +kernel, by decide +kernel⟩ dd_X3_law_18, ?_⟩
  refine List.forall_mem_cons.mpr ⟨ok_ior hx hb dd_X3_law_21, ?_⟩
  refine List.forall_mem_cons.mpr ⟨ok_istore_n hx hb rfl dd_X3_law_22, ?_⟩
  refine List.forall_mem_cons.mpr ⟨ok_iinc hx hb dd_X3_law_23 (by decide), ?_⟩
  refine List.forall_mem_cons.mpr ⟨ok_goto hx hb dd_X3_law_26 (by decide), ?_⟩
  refine List.forall_mem_cons.mpr ⟨ok_iload_n hx hb rfl dd_X3_law_29, ?_⟩
  refine List.forall_mem_cons.mpr ⟨ok_iret hx hb hr hlocks hQ dd_X3_law_30, ?_⟩
  exact fun _ h => absurd h List.not_mem_nil
set_option maxRecDepth 100000 in
theorem vc_X3_law_0 {kd : Nat → Nat} {K : zK} {X : zX} (hX : ∀ (n pc : Nat) (ls : zLS) (st : List zV) (M : zM), zrun (tb_X3_law kd K) [(5, [])] n X pc ls st M → X pc ls st M) {t : Nat} {g : Int32} {y : Int32} {M : zM}  (h : X 5 [some (zR t 0), some (zI (g)), some (zI (y)), some (zI ((0 : Int32))), some (zI ((0 : Int32)))] [] M) : X 0 [some (zR t 0), some (zI (g)), some (zI (y)), none, none] [] M := hX 6 0 _ [] M (show X 5 [some (zR t 0), some (zI (g)), some (zI (y)), some (zI ((0 : Int32))), some (zI ((0 : Int32)))] [] M from h)
set_option maxRecDepth 100000 in
theorem vc_X3_law_5 {kd : Nat → Nat} {K : zK} {X : zX} (hX : ∀ (n pc : Nat) (ls : zLS) (st : List zV) (M : zM), zrun (tb_X3_law kd K) [(5, [])] n X pc ls st M → X pc ls st M) {t : Nat} {g : Int32} {y : Int32} {w : Int32} {c : Int32} {M : zM} (hk0 : kd t = 3) (h : (((6 : Int32) ≤ c) → K (some (zI (w))) M) ∧ ((¬ (6 : Int32) ≤ c) → ∃ a1 : Sk, (RpS (M.1 t) a1) ∧ (0 ≤ c.toInt ∧ c.toInt < 6) ∧ (0 ≤ y.toInt ∧ y.toInt < 1000000) ∧ ∀ v1 : Int32, (v1.toInt = sk_lawC a1 c.toInt g.toInt y.toInt) → X 5 [some (zR t 0), some (zI (g)), some (zI (y)), some (zI (w ||| v1)), some (zI (c + 1))] [] M)) : X 5 [some (zR t 0), some (zI (g)), some (zI (y)), some (zI (w)), some (zI (c))] [] M := hX 15 5 _ [] M (show (((6 : Int32) ≤ c) → K (some (zI (w))) M) ∧ ((¬ (6 : Int32) ≤ c) → (kd t = 3) ∧ ∃ a1 : Sk, (RpS (M.1 t) a1) ∧ (0 ≤ c.toInt ∧ c.toInt < 6) ∧ (0 ≤ y.toInt ∧ y.toInt < 1000000) ∧ ∀ v1 : Int32, (v1.toInt = sk_lawC a1 c.toInt g.toInt y.toInt) → X 5 [some (zR t 0), some (zI (g)), some (zI (y)), some (zI (w ||| v1)), some (zI (c + 1))] [] M) from ⟨fun q => have h := h.1 q; h, fun q => have h := h.2 q; ⟨hk0, h.elim (fun a1 h => ⟨a1, ⟨h.1, have h := h.2; ⟨h.1, have h := h.2; ⟨h.1, have h := h.2; fun v1 => have h := h v1; fun q => have h := h q; h⟩⟩⟩⟩)⟩⟩)
def sp_X3_tally : zSpec := fun kd as M K => match as with
  | [.inr (.inr (.inl (t, 0))), .inl g, .inl e, .inl y] => (kd t = 3) ∧ ∃ a : Sk, (RpS (M.1 t) a) ∧ (0 ≤ y.toInt ∧ y.toInt < 1000000) ∧ ∀ v : Int32, (v.toInt = sk_N a g.toInt e.toInt y.toInt) → K (some (.inl v)) M
  | _ => False
theorem rv_X3_tally : zrv sp_X3_tally 3 3 := by
  intro kd as M K h
  unfold sp_X3_tally at h
  split at h
  · exact ⟨_, _, rfl, h.1⟩
  · exact h.elim
theorem dd_X3_tally_0 : decode cX3_tally 0 = .ok (.iconst 0, 1) := by decide +kernel
theorem dd_X3_tally_1 : decode cX3_tally 1 = .ok (.istore 4, 2) := by decide +kernel
theorem dd_X3_tally_3 : decode cX3_tally 3 = .ok (.iconst 0, 1) := by decide +kernel
theorem dd_X3_tally_4 : decode cX3_tally 4 = .ok (.istore 5, 2) := by decide +kernel
theorem dd_X3_tally_6 : decode cX3_tally 6 = .ok (.iload 5, 2) := by decide +kernel
theorem dd_X3_tally_8 : decode cX3_tally 8 = .ok (.bipush 6, 2) := by decide +kernel
theorem dd_X3_tally_10 : decode cX3_tally 10 = .ok (.if_icmp .ge 84, 3) := by decide +kernel
theorem dd_X3_tally_13 : decode cX3_tally 13 = .ok (.iconst 0, 1) := by decide +kernel
theorem dd_X3_tally_14 : decode cX3_tally 14 = .ok (.istore 6, 2) := by decide +kernel
theorem dd_X3_tally_16 : decode cX3_tally 16 = .ok (.iload 6, 2) := by decide +kernel
theorem dd_X3_tally_18 : decode cX3_tally 18 = .ok (.iconst 4, 1) := by decide +kernel
theorem dd_X3_tally_19 : decode cX3_tally 19 = .ok (.if_icmp .ge 69, 3) := by decide +kernel
theorem dd_X3_tally_22 : decode cX3_tally 22 = .ok (.aload_n 0, 1) := by decide +kernel
theorem dd_X3_tally_23 : decode cX3_tally 23 = .ok (.iload 5, 2) := by decide +kernel
theorem dd_X3_tally_25 : decode cX3_tally 25 = .ok (.iload 6, 2) := by decide +kernel
theorem dd_X3_tally_27 : decode cX3_tally 27 = .ok (.invokevirtual 40, 3) := by decide +kernel
theorem dd_X3_tally_30 : decode cX3_tally 30 = .ok (.istore 7, 2) := by decide +kernel
theorem dd_X3_tally_32 : decode cX3_tally 32 = .ok (.iload 7, 2) := by decide +kernel
theorem dd_X3_tally_34 : decode cX3_tally 34 = .ok (.iconst (-1), 1) := by decide +kernel
theorem dd_X3_tally_35 : decode cX3_tally 35 = .ok (.if_icmp .eq 47, 3) := by decide +kernel
theorem dd_X3_tally_38 : decode cX3_tally 38 = .ok (.aload_n 0, 1) := by decide +kernel
theorem dd_X3_tally_39 : decode cX3_tally 39 = .ok (.getfield 18, 3) := by decide +kernel
theorem dd_X3_tally_42 : decode cX3_tally 42 = .ok (.iload 7, 2) := by decide +kernel
theorem dd_X3_tally_44 : decode cX3_tally 44 = .ok (.iaload, 1) := by decide +kernel
theorem dd_X3_tally_45 : decode cX3_tally 45 = .ok (.iload_n 1, 1) := by decide +kernel
theorem dd_X3_tally_46 : decode cX3_tally 46 = .ok (.if_icmp .ne 36, 3) := by decide +kernel
theorem dd_X3_tally_49 : decode cX3_tally 49 = .ok (.aload_n 0, 1) := by decide +kernel
theorem dd_X3_tally_50 : decode cX3_tally 50 = .ok (.getfield 21, 3) := by decide +kernel
theorem dd_X3_tally_53 : decode cX3_tally 53 = .ok (.iload 7, 2) := by decide +kernel
theorem dd_X3_tally_55 : decode cX3_tally 55 = .ok (.iaload, 1) := by decide +kernel
theorem dd_X3_tally_56 : decode cX3_tally 56 = .ok (.iload_n 2, 1) := by decide +kernel
theorem dd_X3_tally_57 : decode cX3_tally 57 = .ok (.if_icmp .ne 25, 3) := by decide +kernel
theorem dd_X3_tally_60 : decode cX3_tally 60 = .ok (.aload_n 0, 1) := by decide +kernel
theorem dd_X3_tally_61 : decode cX3_tally 61 = .ok (.aload_n 0, 1) := by decide +kernel
theorem dd_X3_tally_62 : decode cX3_tally 62 = .ok (.getfield 15, 3) := by decide +kernel
theorem dd_X3_tally_65 : decode cX3_tally 65 = .ok (.iload 7, 2) := by decide +kernel
theorem dd_X3_tally_67 : decode cX3_tally 67 = .ok (.iaload, 1) := by decide +kernel
theorem dd_X3_tally_68 : decode cX3_tally 68 = .ok (.iload 5, 2) := by decide +kernel
theorem dd_X3_tally_70 : decode cX3_tally 70 = .ok (.iload 6, 2) := by decide +kernel
theorem dd_X3_tally_72 : decode cX3_tally 72 = .ok (.iload_n 3, 1) := by decide +kernel
theorem dd_X3_tally_73 : decode cX3_tally 73 = .ok (.invokevirtual 84, 3) := by decide +kernel
theorem dd_X3_tally_76 : decode cX3_tally 76 = .ok (.ifCond .eq 6, 3) := by decide +kernel
theorem dd_X3_tally_79 : decode cX3_tally 79 = .ok (.iinc 4 1, 3) := by decide +kernel
theorem dd_X3_tally_82 : decode cX3_tally 82 = .ok (.iinc 6 1, 3) := by decide +kernel
theorem dd_X3_tally_85 : decode cX3_tally 85 = .ok (.goto (-69), 3) := by decide +kernel
theorem dd_X3_tally_88 : decode cX3_tally 88 = .ok (.iinc 5 1, 3) := by decide +kernel
theorem dd_X3_tally_91 : decode cX3_tally 91 = .ok (.goto (-85), 3) := by decide +kernel
theorem dd_X3_tally_94 : decode cX3_tally 94 = .ok (.iload 4, 2) := by decide +kernel
theorem dd_X3_tally_96 : decode cX3_tally 96 = .ok (.ireturn, 1) := by decide +kernel
def tb_X3_tally (kd : Nat → Nat) (K : zK) : zTab := [(0, zt_const (zI 0) 1), (1, zt_istore 4 3), (3, zt_const (zI 0) 4), (4, zt_istore 5 6), (6, zt_iload 5 8), (8, zt_const (zI 6) 10), (10, zt_icmp (fun x y => y ≤ x) (fun x y => ¬ y ≤ x) 94 13), (13, zt_const (zI 0) 14), (14, zt_istore 6 16), (16, zt_iload 6 18), (18, zt_const (zI 4) 19), (19, zt_icmp (fun x y => y ≤ x) (fun x y => ¬ y ≤ x) 88 22), (22, zt_aload 0 23), (23, zt_iload 5 25), (25, zt_iload 6 27), (27, zt_call kd sp_X3_slot 3 30), (30, zt_istore 7 32), (32, zt_iload 7 34), (34, zt_const (zI (-1)) 35), (35, zt_icmp (fun x y => x = y) (fun x y => ¬ x = y) 82 38), (38, zt_aload 0 39), (39, zt_getR kd 3 0 3 42), (42, zt_iload 7 44), (44, zt_ald kd 0 45), (45, zt_iload 1 46), (46, zt_icmp (fun x y => ¬ x = y) (fun x y => x = y) 82 49), (49, zt_aload 0 50), (50, zt_getR kd 3 0 4 53), (53, zt_iload 7 55), (55, zt_ald kd 0 56), (56, zt_iload 2 57), (57, zt_icmp (fun x y => ¬ x = y) (fun x y => x = y) 82 60), (60, zt_aload 0 61), (61, zt_aload 0 62), (62, zt_getR kd 3 0 2 65), (65, zt_iload 7 67), (67, zt_ald kd 0 68), (68, zt_iload 5 70), (70, zt_iload 6 72), (72, zt_iload 3 73), (73, zt_call kd sp_X3_wouldBind 5 76), (76, zt_if (fun x => x = 0) (fun x => ¬ x = 0) 82 79), (79, zt_iinc 4 1 82), (82, zt_iinc 6 1 85), (85, zt_goto 16), (88, zt_iinc 5 1 91), (91, zt_goto 6), (94, zt_iload 4 96), (96, zt_iret K)]
set_option maxRecDepth 20000 in
theorem tk_X3_tally (d : Nat) (h_X3_slot : zMS 1 yX3_slot cX3_slot 3 (some .int) sp_X3_slot) (h_X3_wouldBind : zMS 3 yX3_wouldBind cX3_wouldBind 6 (some .boolean) sp_X3_wouldBind) : zTrue RX3 cX3_tally 8 (some .int) (d + 4) (fun kd K => tb_X3_tally kd K) := by
  intro p l e R s m args below meth c D cy A ad bl Qm K C0 hr hlocks hQ
  obtain ⟨hx, hb, hml, hown, hts, hK, hD, hA0, hN, hE, ⟨hR1, hR2⟩, hc1, hc2⟩ := id C0
  unfold tb_X3_tally
  refine List.forall_mem_cons.mpr ⟨ok_iconst hx hb dd_X3_tally_0 (by decide), ?_⟩
  refine List.forall_mem_cons.mpr ⟨ok_istore hx hb dd_X3_tally_1, ?_⟩
  refine List.forall_mem_cons.mpr ⟨ok_iconst hx hb dd_X3_tally_3 (by decide), ?_⟩
  refine List.forall_mem_cons.mpr ⟨ok_istore hx hb dd_X3_tally_4, ?_⟩
  refine List.forall_mem_cons.mpr ⟨ok_iload hx hb dd_X3_tally_6, ?_⟩
  refine List.forall_mem_cons.mpr ⟨ok_bipush hx hb dd_X3_tally_8 (by decide), ?_⟩
  refine List.forall_mem_cons.mpr ⟨ok_icmp_ge hx hb dd_X3_tally_10 (by decide), ?_⟩
  refine List.forall_mem_cons.mpr ⟨ok_iconst hx hb dd_X3_tally_13 (by decide), ?_⟩
  refine List.forall_mem_cons.mpr ⟨ok_istore hx hb dd_X3_tally_14, ?_⟩
  refine List.forall_mem_cons.mpr ⟨ok_iload hx hb dd_X3_tally_16, ?_⟩
  refine List.forall_mem_cons.mpr ⟨ok_iconst hx hb dd_X3_tally_18 (by decide), ?_⟩
  refine List.forall_mem_cons.mpr ⟨ok_icmp_ge hx hb dd_X3_tally_19 (by decide), ?_⟩
  refine List.forall_mem_cons.mpr ⟨ok_aload_n hx hb rfl dd_X3_tally_22, ?_⟩
  refine List.forall_mem_cons.mpr ⟨ok_iload hx hb dd_X3_tally_23, ?_⟩
  refine List.forall_mem_cons.mpr ⟨ok_iload hx hb dd_X3_tally_25, ?_⟩
  refine List.forall_mem_cons.mpr ⟨ok_callV (n := 2) zc_X3 rv_X3_slot C0 (h_X3_slot (d + 3) (by omega)) (by decide) wd_341 wd_338 wd_340 wd_6 wd_102 ⟨rfl, by decide +kernel, by decide +kernel, by decide +kernel⟩ dd_X3_tally_27, ?_⟩
  refine List.forall_mem_cons.mpr ⟨ok_istore hx hb dd_X3_tally_30, ?_⟩
  refine List.forall_mem_cons.mpr ⟨ok_iload hx hb dd_X3_tally_32, ?_⟩
  refine List.forall_mem_cons.mpr ⟨ok_iconst hx hb dd_X3_tally_34 (by decide), ?_⟩
  refine List.forall_mem_cons.mpr ⟨ok_icmp_eq hx hb dd_X3_tally_35 (by decide), ?_⟩
  refine List.forall_mem_cons.mpr ⟨ok_aload_n hx hb rfl dd_X3_tally_38, ?_⟩
  refine List.forall_mem_cons.mpr ⟨ok_getR (j := 2) hx hb hts zi_X3 hown hK zc_X3 (by decide) rfl (fun t fl h => by cases h; rfl) (hts _ wd_139) dd_X3_tally_39, ?_⟩
  refine List.forall_mem_cons.mpr ⟨ok_iload hx hb dd_X3_tally_42, ?_⟩
  refine List.forall_mem_cons.mpr ⟨ok_ald (ty := 0) rfl hx hb hK (Or.inl ⟨rfl, rfl, dd_X3_tally_44⟩), ?_⟩
  refine List.forall_mem_cons.mpr ⟨ok_iload_n hx hb rfl dd_X3_tally_45, ?_⟩
  refine List.forall_mem_cons.mpr ⟨ok_icmp_ne hx hb dd_X3_tally_46 (by decide), ?_⟩
  refine List.forall_mem_cons.mpr ⟨ok_aload_n hx hb rfl dd_X3_tally_49, ?_⟩
  refine List.forall_mem_cons.mpr ⟨ok_getR (j := 3) hx hb hts zi_X3 hown hK zc_X3 (by decide) rfl (fun t fl h => by cases h; rfl) (hts _ wd_140) dd_X3_tally_50, ?_⟩
  refine List.forall_mem_cons.mpr ⟨ok_iload hx hb dd_X3_tally_53, ?_⟩
  refine List.forall_mem_cons.mpr ⟨ok_ald (ty := 0) rfl hx hb hK (Or.inl ⟨rfl, rfl, dd_X3_tally_55⟩), ?_⟩
  refine List.forall_mem_cons.mpr ⟨ok_iload_n hx hb rfl dd_X3_tally_56, ?_⟩
  refine List.forall_mem_cons.mpr ⟨ok_icmp_ne hx hb dd_X3_tally_57 (by decide), ?_⟩
  refine List.forall_mem_cons.mpr ⟨ok_aload_n hx hb rfl dd_X3_tally_60, ?_⟩
  refine List.forall_mem_cons.mpr ⟨ok_aload_n hx hb rfl dd_X3_tally_61, ?_⟩
  refine List.forall_mem_cons.mpr ⟨ok_getR (j := 1) hx hb hts zi_X3 hown hK zc_X3 (by decide) rfl (fun t fl h => by cases h; rfl) (hts _ wd_138) dd_X3_tally_62, ?_⟩
  refine List.forall_mem_cons.mpr ⟨ok_iload hx hb dd_X3_tally_65, ?_⟩
  refine List.forall_mem_cons.mpr ⟨ok_ald (ty := 0) rfl hx hb hK (Or.inl ⟨rfl, rfl, dd_X3_tally_67⟩), ?_⟩
  refine List.forall_mem_cons.mpr ⟨ok_iload hx hb dd_X3_tally_68, ?_⟩
  refine List.forall_mem_cons.mpr ⟨ok_iload hx hb dd_X3_tally_70, ?_⟩
  refine List.forall_mem_cons.mpr ⟨ok_iload_n hx hb rfl dd_X3_tally_72, ?_⟩
  refine List.forall_mem_cons.mpr ⟨ok_callV (n := 4) zc_X3 rv_X3_wouldBind C0 (h_X3_wouldBind (d + 3) (by omega)) (by decide) wd_558 wd_555 wd_557 wd_26 wd_102 ⟨rfl, by decide +kernel, by decide +kernel, by decide +kernel⟩ dd_X3_tally_73, ?_⟩
  refine List.forall_mem_cons.mpr ⟨ok_if_eq hx hb dd_X3_tally_76 (by decide), ?_⟩
  refine List.forall_mem_cons.mpr ⟨ok_iinc hx hb dd_X3_tally_79 (by decide), ?_⟩
  refine List.forall_mem_cons.mpr ⟨ok_iinc hx hb dd_X3_tally_82 (by decide), ?_⟩
  refine List.forall_mem_cons.mpr ⟨ok_goto hx hb dd_X3_tally_85 (by decide), ?_⟩
  refine List.forall_mem_cons.mpr ⟨ok_iinc hx hb dd_X3_tally_88 (by decide), ?_⟩
  refine List.forall_mem_cons.mpr ⟨ok_goto hx hb dd_X3_tally_91 (by decide), ?_⟩
  refine List.forall_mem_cons.mpr ⟨ok_iload hx hb dd_X3_tally_94, ?_⟩
  refine List.forall_mem_cons.mpr ⟨ok_iret hx hb hr hlocks hQ dd_X3_tally_96, ?_⟩
  exact fun _ h => absurd h List.not_mem_nil
set_option maxRecDepth 100000 in
theorem vc_X3_tally_0 {kd : Nat → Nat} {K : zK} {X : zX} (hX : ∀ (n pc : Nat) (ls : zLS) (st : List zV) (M : zM), zrun (tb_X3_tally kd K) [(6, [6, 7]), (16, [7])] n X pc ls st M → X pc ls st M) {t : Nat} {g : Int32} {e : Int32} {y : Int32} {M : zM}  (h : X 6 [some (zR t 0), some (zI (g)), some (zI (e)), some (zI (y)), some (zI ((0 : Int32))), some (zI ((0 : Int32))), none, none] [] M) : X 0 [some (zR t 0), some (zI (g)), some (zI (e)), some (zI (y)), none, none, none, none] [] M := hX 6 0 _ [] M (show X 6 [some (zR t 0), some (zI (g)), some (zI (e)), some (zI (y)), some (zI ((0 : Int32))), some (zI ((0 : Int32))), none, none] [] M from h)
set_option maxRecDepth 100000 in
theorem vc_X3_tally_6 {kd : Nat → Nat} {K : zK} {X : zX} (hX : ∀ (n pc : Nat) (ls : zLS) (st : List zV) (M : zM), zrun (tb_X3_tally kd K) [(6, [6, 7]), (16, [7])] n X pc ls st M → X pc ls st M) {t : Nat} {g : Int32} {e : Int32} {y : Int32} {s : Int32} {c : Int32} {M : zM}  (h : (((6 : Int32) ≤ c) → K (some (zI (s))) M) ∧ ((¬ (6 : Int32) ≤ c) → X 16 [some (zR t 0), some (zI (g)), some (zI (e)), some (zI (y)), some (zI (s)), some (zI (c)), some (zI ((0 : Int32))), none] [] M)) : X 6 [some (zR t 0), some (zI (g)), some (zI (e)), some (zI (y)), some (zI (s)), some (zI (c)), none, none] [] M := hX 7 6 _ [] M (show (((6 : Int32) ≤ c) → K (some (zI (s))) M) ∧ ((¬ (6 : Int32) ≤ c) → X 16 [some (zR t 0), some (zI (g)), some (zI (e)), some (zI (y)), some (zI (s)), some (zI (c)), some (zI ((0 : Int32))), none] [] M) from ⟨fun q => have h := h.1 q; h, fun q => have h := h.2 q; h⟩)
set_option maxRecDepth 100000 in
theorem vc_X3_tally_16 {kd : Nat → Nat} {K : zK} {X : zX} (hX : ∀ (n pc : Nat) (ls : zLS) (st : List zV) (M : zM), zrun (tb_X3_tally kd K) [(6, [6, 7]), (16, [7])] n X pc ls st M → X pc ls st M) {t : Nat} {g : Int32} {e : Int32} {y : Int32} {s : Int32} {c : Int32} {i : Int32} {M : zM} (hk0 : kd t = 3) (h : (((4 : Int32) ≤ i) → X 6 [some (zR t 0), some (zI (g)), some (zI (e)), some (zI (y)), some (zI (s)), some (zI (c + 1)), none, none] [] M) ∧ ((¬ (4 : Int32) ≤ i) → ∃ a1 : Sk, (RpS (M.1 t) a1) ∧ ∀ v1 : Int32, (v1.toInt = if (sk_at a1 c.toInt i.toInt).isSome then 4 * c.toInt + i.toInt else -1) → ((v1 = (-1 : Int32)) → X 16 [some (zR t 0), some (zI (g)), some (zI (e)), some (zI (y)), some (zI (s)), some (zI (c)), some (zI (i + 1)), none] [] M) ∧ ((¬ v1 = (-1 : Int32)) → (zin (kd t) 3 0 v1) ∧ ((¬ (M.1 t 3 (v1).toNatClampNeg) = g) → X 16 [some (zR t 0), some (zI (g)), some (zI (e)), some (zI (y)), some (zI (s)), some (zI (c)), some (zI (i + 1)), none] [] M) ∧ (((M.1 t 3 (v1).toNatClampNeg) = g) → (zin (kd t) 4 0 v1) ∧ ((¬ (M.1 t 4 (v1).toNatClampNeg) = e) → X 16 [some (zR t 0), some (zI (g)), some (zI (e)), some (zI (y)), some (zI (s)), some (zI (c)), some (zI (i + 1)), none] [] M) ∧ (((M.1 t 4 (v1).toNatClampNeg) = e) → (zin (kd t) 2 0 v1) ∧ ∃ a2 : Sk, (RpS (M.1 t) a2) ∧ ∃ l2 : Ly, (sk_at a2 c.toInt i.toInt = some l2) ∧ (0 ≤ y.toInt ∧ y.toInt < 1000000) ∧ ∀ v2 : Int32, (v2 = zp (bnd (M.1 t 2 (v1).toNatClampNeg).toInt l2 (sk_at a2 c.toInt (i.toInt + 1)) y.toInt = true)) → ((v2 = 0) → X 16 [some (zR t 0), some (zI (g)), some (zI (e)), some (zI (y)), some (zI (s)), some (zI (c)), some (zI (i + 1)), none] [] M) ∧ ((¬ v2 = 0) → X 16 [some (zR t 0), some (zI (g)), some (zI (e)), some (zI (y)), some (zI (s + 1)), some (zI (c)), some (zI (i + 1)), none] [] M)))))) : X 16 [some (zR t 0), some (zI (g)), some (zI (e)), some (zI (y)), some (zI (s)), some (zI (c)), some (zI (i)), none] [] M := hX 38 16 _ [] M (show (((4 : Int32) ≤ i) → X 6 [some (zR t 0), some (zI (g)), some (zI (e)), some (zI (y)), some (zI (s)), some (zI (c + 1)), none, none] [] M) ∧ ((¬ (4 : Int32) ≤ i) → (kd t = 3) ∧ ∃ a1 : Sk, (RpS (M.1 t) a1) ∧ ∀ v1 : Int32, (v1.toInt = if (sk_at a1 c.toInt i.toInt).isSome then 4 * c.toInt + i.toInt else -1) → ((v1 = (-1 : Int32)) → X 16 [some (zR t 0), some (zI (g)), some (zI (e)), some (zI (y)), some (zI (s)), some (zI (c)), some (zI (i + 1)), none] [] M) ∧ ((¬ v1 = (-1 : Int32)) → (kd t = 3) ∧ (zin (kd t) 3 0 v1) ∧ ((¬ (M.1 t 3 (v1).toNatClampNeg) = g) → X 16 [some (zR t 0), some (zI (g)), some (zI (e)), some (zI (y)), some (zI (s)), some (zI (c)), some (zI (i + 1)), none] [] M) ∧ (((M.1 t 3 (v1).toNatClampNeg) = g) → (kd t = 3) ∧ (zin (kd t) 4 0 v1) ∧ ((¬ (M.1 t 4 (v1).toNatClampNeg) = e) → X 16 [some (zR t 0), some (zI (g)), some (zI (e)), some (zI (y)), some (zI (s)), some (zI (c)), some (zI (i + 1)), none] [] M) ∧ (((M.1 t 4 (v1).toNatClampNeg) = e) → (kd t = 3) ∧ (zin (kd t) 2 0 v1) ∧ (kd t = 3) ∧ ∃ a2 : Sk, (RpS (M.1 t) a2) ∧ ∃ l2 : Ly, (sk_at a2 c.toInt i.toInt = some l2) ∧ (0 ≤ y.toInt ∧ y.toInt < 1000000) ∧ ∀ v2 : Int32, (v2 = zp (bnd (M.1 t 2 (v1).toNatClampNeg).toInt l2 (sk_at a2 c.toInt (i.toInt + 1)) y.toInt = true)) → ((v2 = 0) → X 16 [some (zR t 0), some (zI (g)), some (zI (e)), some (zI (y)), some (zI (s)), some (zI (c)), some (zI (i + 1)), none] [] M) ∧ ((¬ v2 = 0) → X 16 [some (zR t 0), some (zI (g)), some (zI (e)), some (zI (y)), some (zI (s + 1)), some (zI (c)), some (zI (i + 1)), none] [] M))))) from ⟨fun q => have h := h.1 q; h, fun q => have h := h.2 q; ⟨hk0, h.elim (fun a1 h => ⟨a1, ⟨h.1, have h := h.2; fun v1 => have h := h v1; fun q => have h := h q; ⟨fun q => have h := h.1 q; h, fun q => have h := h.2 q; ⟨hk0, ⟨h.1, have h := h.2; ⟨fun q => have h := h.1 q; h, fun q => have h := h.2 q; ⟨hk0, ⟨h.1, have h := h.2; ⟨fun q => have h := h.1 q; h, fun q => have h := h.2 q; ⟨hk0, ⟨h.1, have h := h.2; ⟨hk0, h.elim (fun a2 h => ⟨a2, ⟨h.1, have h := h.2; h.elim (fun l2 h => ⟨l2, ⟨h.1, have h := h.2; ⟨h.1, have h := h.2; fun v2 => have h := h v2; fun q => have h := h q; ⟨fun q => have h := h.1 q; h, fun q => have h := h.2 q; h⟩⟩⟩⟩)⟩⟩)⟩⟩⟩⟩⟩⟩⟩⟩⟩⟩⟩⟩)⟩⟩)
def sp_X3_boundIn : zSpec := fun kd as M K => match as with
  | [.inr (.inr (.inl (t, 0))), .inl y] => (kd t = 3) ∧ ∃ a : Sk, (RpS (M.1 t) a) ∧ (0 ≤ y.toInt ∧ y.toInt < 1000000) ∧ ∀ v : Int32, (v.toInt = sk_bi a y.toInt) → K (some (.inl v)) M
  | _ => False
theorem rv_X3_boundIn : zrv sp_X3_boundIn 3 1 := by
  intro kd as M K h
  unfold sp_X3_boundIn at h
  split at h
  · exact ⟨_, _, rfl, h.1⟩
  · exact h.elim
theorem dd_X3_boundIn_0 : decode cX3_boundIn 0 = .ok (.iconst 0, 1) := by decide +kernel
theorem dd_X3_boundIn_1 : decode cX3_boundIn 1 = .ok (.istore_n 2, 1) := by decide +kernel
theorem dd_X3_boundIn_2 : decode cX3_boundIn 2 = .ok (.iconst 0, 1) := by decide +kernel
theorem dd_X3_boundIn_3 : decode cX3_boundIn 3 = .ok (.istore_n 3, 1) := by decide +kernel
theorem dd_X3_boundIn_4 : decode cX3_boundIn 4 = .ok (.iload_n 3, 1) := by decide +kernel
theorem dd_X3_boundIn_5 : decode cX3_boundIn 5 = .ok (.bipush 6, 2) := by decide +kernel
theorem dd_X3_boundIn_7 : decode cX3_boundIn 7 = .ok (.if_icmp .ge 38, 3) := by decide +kernel
theorem dd_X3_boundIn_10 : decode cX3_boundIn 10 = .ok (.iconst 0, 1) := by decide +kernel
theorem dd_X3_boundIn_11 : decode cX3_boundIn 11 = .ok (.istore 4, 2) := by decide +kernel
theorem dd_X3_boundIn_13 : decode cX3_boundIn 13 = .ok (.iload 4, 2) := by decide +kernel
theorem dd_X3_boundIn_15 : decode cX3_boundIn 15 = .ok (.iconst 4, 1) := by decide +kernel
theorem dd_X3_boundIn_16 : decode cX3_boundIn 16 = .ok (.if_icmp .ge 23, 3) := by decide +kernel
theorem dd_X3_boundIn_19 : decode cX3_boundIn 19 = .ok (.aload_n 0, 1) := by decide +kernel
theorem dd_X3_boundIn_20 : decode cX3_boundIn 20 = .ok (.iload_n 3, 1) := by decide +kernel
theorem dd_X3_boundIn_21 : decode cX3_boundIn 21 = .ok (.iload 4, 2) := by decide +kernel
theorem dd_X3_boundIn_23 : decode cX3_boundIn 23 = .ok (.iload_n 1, 1) := by decide +kernel
theorem dd_X3_boundIn_24 : decode cX3_boundIn 24 = .ok (.invokevirtual 88, 3) := by decide +kernel
theorem dd_X3_boundIn_27 : decode cX3_boundIn 27 = .ok (.ifCond .eq 6, 3) := by decide +kernel
theorem dd_X3_boundIn_30 : decode cX3_boundIn 30 = .ok (.iinc 2 1, 3) := by decide +kernel
theorem dd_X3_boundIn_33 : decode cX3_boundIn 33 = .ok (.iinc 4 1, 3) := by decide +kernel
theorem dd_X3_boundIn_36 : decode cX3_boundIn 36 = .ok (.goto (-23), 3) := by decide +kernel
theorem dd_X3_boundIn_39 : decode cX3_boundIn 39 = .ok (.iinc 3 1, 3) := by decide +kernel
theorem dd_X3_boundIn_42 : decode cX3_boundIn 42 = .ok (.goto (-38), 3) := by decide +kernel
theorem dd_X3_boundIn_45 : decode cX3_boundIn 45 = .ok (.iload_n 2, 1) := by decide +kernel
theorem dd_X3_boundIn_46 : decode cX3_boundIn 46 = .ok (.ireturn, 1) := by decide +kernel
def tb_X3_boundIn (kd : Nat → Nat) (K : zK) : zTab := [(0, zt_const (zI 0) 1), (1, zt_istore 2 2), (2, zt_const (zI 0) 3), (3, zt_istore 3 4), (4, zt_iload 3 5), (5, zt_const (zI 6) 7), (7, zt_icmp (fun x y => y ≤ x) (fun x y => ¬ y ≤ x) 45 10), (10, zt_const (zI 0) 11), (11, zt_istore 4 13), (13, zt_iload 4 15), (15, zt_const (zI 4) 16), (16, zt_icmp (fun x y => y ≤ x) (fun x y => ¬ y ≤ x) 39 19), (19, zt_aload 0 20), (20, zt_iload 3 21), (21, zt_iload 4 23), (23, zt_iload 1 24), (24, zt_call kd sp_X3_bound 4 27), (27, zt_if (fun x => x = 0) (fun x => ¬ x = 0) 33 30), (30, zt_iinc 2 1 33), (33, zt_iinc 4 1 36), (36, zt_goto 13), (39, zt_iinc 3 1 42), (42, zt_goto 4), (45, zt_iload 2 46), (46, zt_iret K)]
set_option maxRecDepth 20000 in
theorem tk_X3_boundIn (d : Nat) (h_X3_bound : zMS 4 yX3_bound cX3_bound 5 (some .boolean) sp_X3_bound) : zTrue RX3 cX3_boundIn 5 (some .int) (d + 5) (fun kd K => tb_X3_boundIn kd K) := by
  intro p l e R s m args below meth c D cy A ad bl Qm K C0 hr hlocks hQ
  obtain ⟨hx, hb, hml, hown, hts, hK, hD, hA0, hN, hE, ⟨hR1, hR2⟩, hc1, hc2⟩ := id C0
  unfold tb_X3_boundIn
  refine List.forall_mem_cons.mpr ⟨ok_iconst hx hb dd_X3_boundIn_0 (by decide), ?_⟩
  refine List.forall_mem_cons.mpr ⟨ok_istore_n hx hb rfl dd_X3_boundIn_1, ?_⟩
  refine List.forall_mem_cons.mpr ⟨ok_iconst hx hb dd_X3_boundIn_2 (by decide), ?_⟩
  refine List.forall_mem_cons.mpr ⟨ok_istore_n hx hb rfl dd_X3_boundIn_3, ?_⟩
  refine List.forall_mem_cons.mpr ⟨ok_iload_n hx hb rfl dd_X3_boundIn_4, ?_⟩
  refine List.forall_mem_cons.mpr ⟨ok_bipush hx hb dd_X3_boundIn_5 (by decide), ?_⟩
  refine List.forall_mem_cons.mpr ⟨ok_icmp_ge hx hb dd_X3_boundIn_7 (by decide), ?_⟩
  refine List.forall_mem_cons.mpr ⟨ok_iconst hx hb dd_X3_boundIn_10 (by decide), ?_⟩
  refine List.forall_mem_cons.mpr ⟨ok_istore hx hb dd_X3_boundIn_11, ?_⟩
  refine List.forall_mem_cons.mpr ⟨ok_iload hx hb dd_X3_boundIn_13, ?_⟩
  refine List.forall_mem_cons.mpr ⟨ok_iconst hx hb dd_X3_boundIn_15 (by decide), ?_⟩
  refine List.forall_mem_cons.mpr ⟨ok_icmp_ge hx hb dd_X3_boundIn_16 (by decide), ?_⟩
  refine List.forall_mem_cons.mpr ⟨ok_aload_n hx hb rfl dd_X3_boundIn_19, ?_⟩
  refine List.forall_mem_cons.mpr ⟨ok_iload_n hx hb rfl dd_X3_boundIn_20, ?_⟩
  refine List.forall_mem_cons.mpr ⟨ok_iload hx hb dd_X3_boundIn_21, ?_⟩
  refine List.forall_mem_cons.mpr ⟨ok_iload_n hx hb rfl dd_X3_boundIn_23, ?_⟩
  refine List.forall_mem_cons.mpr ⟨ok_callV (n := 3) zc_X3 rv_X3_bound C0 (h_X3_bound (d + 4) (by omega)) (by decide) wd_554 wd_591 wd_553 wd_25 wd_102 ⟨rfl, by decide +kernel, by decide +kernel, by decide +kernel⟩ dd_X3_boundIn_24, ?_⟩
  refine List.forall_mem_cons.mpr ⟨ok_if_eq hx hb dd_X3_boundIn_27 (by decide), ?_⟩
  refine List.forall_mem_cons.mpr ⟨ok_iinc hx hb dd_X3_boundIn_30 (by decide), ?_⟩
  refine List.forall_mem_cons.mpr ⟨ok_iinc hx hb dd_X3_boundIn_33 (by decide), ?_⟩
  refine List.forall_mem_cons.mpr ⟨ok_goto hx hb dd_X3_boundIn_36 (by decide), ?_⟩
  refine List.forall_mem_cons.mpr ⟨ok_iinc hx hb dd_X3_boundIn_39 (by decide), ?_⟩
  refine List.forall_mem_cons.mpr ⟨ok_goto hx hb dd_X3_boundIn_42 (by decide), ?_⟩
  refine List.forall_mem_cons.mpr ⟨ok_iload_n hx hb rfl dd_X3_boundIn_45, ?_⟩
  refine List.forall_mem_cons.mpr ⟨ok_iret hx hb hr hlocks hQ dd_X3_boundIn_46, ?_⟩
  exact fun _ h => absurd h List.not_mem_nil
set_option maxRecDepth 100000 in
theorem vc_X3_boundIn_0 {kd : Nat → Nat} {K : zK} {X : zX} (hX : ∀ (n pc : Nat) (ls : zLS) (st : List zV) (M : zM), zrun (tb_X3_boundIn kd K) [(4, [4]), (13, [])] n X pc ls st M → X pc ls st M) {t : Nat} {y : Int32} {M : zM}  (h : X 4 [some (zR t 0), some (zI (y)), some (zI ((0 : Int32))), some (zI ((0 : Int32))), none] [] M) : X 0 [some (zR t 0), some (zI (y)), none, none, none] [] M := hX 6 0 _ [] M (show X 4 [some (zR t 0), some (zI (y)), some (zI ((0 : Int32))), some (zI ((0 : Int32))), none] [] M from h)
set_option maxRecDepth 100000 in
theorem vc_X3_boundIn_4 {kd : Nat → Nat} {K : zK} {X : zX} (hX : ∀ (n pc : Nat) (ls : zLS) (st : List zV) (M : zM), zrun (tb_X3_boundIn kd K) [(4, [4]), (13, [])] n X pc ls st M → X pc ls st M) {t : Nat} {y : Int32} {s : Int32} {c : Int32} {M : zM}  (h : (((6 : Int32) ≤ c) → K (some (zI (s))) M) ∧ ((¬ (6 : Int32) ≤ c) → X 13 [some (zR t 0), some (zI (y)), some (zI (s)), some (zI (c)), some (zI ((0 : Int32)))] [] M)) : X 4 [some (zR t 0), some (zI (y)), some (zI (s)), some (zI (c)), none] [] M := hX 7 4 _ [] M (show (((6 : Int32) ≤ c) → K (some (zI (s))) M) ∧ ((¬ (6 : Int32) ≤ c) → X 13 [some (zR t 0), some (zI (y)), some (zI (s)), some (zI (c)), some (zI ((0 : Int32)))] [] M) from ⟨fun q => have h := h.1 q; h, fun q => have h := h.2 q; h⟩)
set_option maxRecDepth 100000 in
theorem vc_X3_boundIn_13 {kd : Nat → Nat} {K : zK} {X : zX} (hX : ∀ (n pc : Nat) (ls : zLS) (st : List zV) (M : zM), zrun (tb_X3_boundIn kd K) [(4, [4]), (13, [])] n X pc ls st M → X pc ls st M) {t : Nat} {y : Int32} {s : Int32} {c : Int32} {i : Int32} {M : zM} (hk0 : kd t = 3) (h : (((4 : Int32) ≤ i) → X 4 [some (zR t 0), some (zI (y)), some (zI (s)), some (zI (c + 1)), none] [] M) ∧ ((¬ (4 : Int32) ≤ i) → ∃ a1 : Sk, (RpS (M.1 t) a1) ∧ (0 ≤ y.toInt ∧ y.toInt < 1000000) ∧ ∀ v1 : Int32, (v1 = zp (sk_bd a1 c.toInt i.toInt y.toInt = true)) → ((v1 = 0) → X 13 [some (zR t 0), some (zI (y)), some (zI (s)), some (zI (c)), some (zI (i + 1))] [] M) ∧ ((¬ v1 = 0) → X 13 [some (zR t 0), some (zI (y)), some (zI (s + 1)), some (zI (c)), some (zI (i + 1))] [] M))) : X 13 [some (zR t 0), some (zI (y)), some (zI (s)), some (zI (c)), some (zI (i))] [] M := hX 14 13 _ [] M (show (((4 : Int32) ≤ i) → X 4 [some (zR t 0), some (zI (y)), some (zI (s)), some (zI (c + 1)), none] [] M) ∧ ((¬ (4 : Int32) ≤ i) → (kd t = 3) ∧ ∃ a1 : Sk, (RpS (M.1 t) a1) ∧ (0 ≤ y.toInt ∧ y.toInt < 1000000) ∧ ∀ v1 : Int32, (v1 = zp (sk_bd a1 c.toInt i.toInt y.toInt = true)) → ((v1 = 0) → X 13 [some (zR t 0), some (zI (y)), some (zI (s)), some (zI (c)), some (zI (i + 1))] [] M) ∧ ((¬ v1 = 0) → X 13 [some (zR t 0), some (zI (y)), some (zI (s + 1)), some (zI (c)), some (zI (i + 1))] [] M)) from ⟨fun q => have h := h.1 q; h, fun q => have h := h.2 q; ⟨hk0, h.elim (fun a1 h => ⟨a1, ⟨h.1, have h := h.2; ⟨h.1, have h := h.2; fun v1 => have h := h v1; fun q => have h := h q; ⟨fun q => have h := h.1 q; h, fun q => have h := h.2 q; h⟩⟩⟩⟩)⟩⟩)
def sp_X3_quarrelsIn : zSpec := fun kd as M K => match as with
  | [.inr (.inr (.inl (t, 0))), .inl y] => (kd t = 3) ∧ ∃ a : Sk, (RpS (M.1 t) a) ∧ (0 ≤ y.toInt ∧ y.toInt < 1000000) ∧ ∀ v : Int32, (v.toInt = sk_qu a y.toInt) → K (some (.inl v)) M
  | _ => False
theorem rv_X3_quarrelsIn : zrv sp_X3_quarrelsIn 3 1 := by
  intro kd as M K h
  unfold sp_X3_quarrelsIn at h
  split at h
  · exact ⟨_, _, rfl, h.1⟩
  · exact h.elim
theorem dd_X3_quarrelsIn_0 : decode cX3_quarrelsIn 0 = .ok (.iconst 0, 1) := by decide +kernel
theorem dd_X3_quarrelsIn_1 : decode cX3_quarrelsIn 1 = .ok (.istore_n 2, 1) := by decide +kernel
theorem dd_X3_quarrelsIn_2 : decode cX3_quarrelsIn 2 = .ok (.iconst 0, 1) := by decide +kernel
theorem dd_X3_quarrelsIn_3 : decode cX3_quarrelsIn 3 = .ok (.istore_n 3, 1) := by decide +kernel
theorem dd_X3_quarrelsIn_4 : decode cX3_quarrelsIn 4 = .ok (.iload_n 3, 1) := by decide +kernel
theorem dd_X3_quarrelsIn_5 : decode cX3_quarrelsIn 5 = .ok (.iconst 5, 1) := by decide +kernel
theorem dd_X3_quarrelsIn_6 : decode cX3_quarrelsIn 6 = .ok (.if_icmp .ge 22, 3) := by decide +kernel
theorem dd_X3_quarrelsIn_9 : decode cX3_quarrelsIn 9 = .ok (.aload_n 0, 1) := by decide +kernel
theorem dd_X3_quarrelsIn_10 : decode cX3_quarrelsIn 10 = .ok (.iload_n 3, 1) := by decide +kernel
theorem dd_X3_quarrelsIn_11 : decode cX3_quarrelsIn 11 = .ok (.iload_n 1, 1) := by decide +kernel
theorem dd_X3_quarrelsIn_12 : decode cX3_quarrelsIn 12 = .ok (.invokevirtual 98, 3) := by decide +kernel
theorem dd_X3_quarrelsIn_15 : decode cX3_quarrelsIn 15 = .ok (.iconst 3, 1) := by decide +kernel
theorem dd_X3_quarrelsIn_16 : decode cX3_quarrelsIn 16 = .ok (.if_icmp .ne 6, 3) := by decide +kernel
theorem dd_X3_quarrelsIn_19 : decode cX3_quarrelsIn 19 = .ok (.iinc 2 1, 3) := by decide +kernel
theorem dd_X3_quarrelsIn_22 : decode cX3_quarrelsIn 22 = .ok (.iinc 3 1, 3) := by decide +kernel
theorem dd_X3_quarrelsIn_25 : decode cX3_quarrelsIn 25 = .ok (.goto (-21), 3) := by decide +kernel
theorem dd_X3_quarrelsIn_28 : decode cX3_quarrelsIn 28 = .ok (.iload_n 2, 1) := by decide +kernel
theorem dd_X3_quarrelsIn_29 : decode cX3_quarrelsIn 29 = .ok (.ireturn, 1) := by decide +kernel
def tb_X3_quarrelsIn (kd : Nat → Nat) (K : zK) : zTab := [(0, zt_const (zI 0) 1), (1, zt_istore 2 2), (2, zt_const (zI 0) 3), (3, zt_istore 3 4), (4, zt_iload 3 5), (5, zt_const (zI 5) 6), (6, zt_icmp (fun x y => y ≤ x) (fun x y => ¬ y ≤ x) 28 9), (9, zt_aload 0 10), (10, zt_iload 3 11), (11, zt_iload 1 12), (12, zt_call kd sp_X3_law 3 15), (15, zt_const (zI 3) 16), (16, zt_icmp (fun x y => ¬ x = y) (fun x y => x = y) 22 19), (19, zt_iinc 2 1 22), (22, zt_iinc 3 1 25), (25, zt_goto 4), (28, zt_iload 2 29), (29, zt_iret K)]
set_option maxRecDepth 20000 in
theorem tk_X3_quarrelsIn (d : Nat) (h_X3_law : zMS 5 yX3_law cX3_law 5 (some .int) sp_X3_law) : zTrue RX3 cX3_quarrelsIn 4 (some .int) (d + 6) (fun kd K => tb_X3_quarrelsIn kd K) := by
  intro p l e R s m args below meth c D cy A ad bl Qm K C0 hr hlocks hQ
  obtain ⟨hx, hb, hml, hown, hts, hK, hD, hA0, hN, hE, ⟨hR1, hR2⟩, hc1, hc2⟩ := id C0
  unfold tb_X3_quarrelsIn
  refine List.forall_mem_cons.mpr ⟨ok_iconst hx hb dd_X3_quarrelsIn_0 (by decide), ?_⟩
  refine List.forall_mem_cons.mpr ⟨ok_istore_n hx hb rfl dd_X3_quarrelsIn_1, ?_⟩
  refine List.forall_mem_cons.mpr ⟨ok_iconst hx hb dd_X3_quarrelsIn_2 (by decide), ?_⟩
  refine List.forall_mem_cons.mpr ⟨ok_istore_n hx hb rfl dd_X3_quarrelsIn_3, ?_⟩
  refine List.forall_mem_cons.mpr ⟨ok_iload_n hx hb rfl dd_X3_quarrelsIn_4, ?_⟩
  refine List.forall_mem_cons.mpr ⟨ok_iconst hx hb dd_X3_quarrelsIn_5 (by decide), ?_⟩
  refine List.forall_mem_cons.mpr ⟨ok_icmp_ge hx hb dd_X3_quarrelsIn_6 (by decide), ?_⟩
  refine List.forall_mem_cons.mpr ⟨ok_aload_n hx hb rfl dd_X3_quarrelsIn_9, ?_⟩
  refine List.forall_mem_cons.mpr ⟨ok_iload_n hx hb rfl dd_X3_quarrelsIn_10, ?_⟩
  refine List.forall_mem_cons.mpr ⟨ok_iload_n hx hb rfl dd_X3_quarrelsIn_11, ?_⟩
  refine List.forall_mem_cons.mpr ⟨ok_callV (n := 2) zc_X3 rv_X3_law C0 (h_X3_law (d + 5) (by omega)) (by decide) wd_578 wd_603 wd_577 wd_29 wd_102 ⟨rfl, by decide +kernel, by decide +kernel, by decide +kernel⟩ dd_X3_quarrelsIn_12, ?_⟩
  refine List.forall_mem_cons.mpr ⟨ok_iconst hx hb dd_X3_quarrelsIn_15 (by decide), ?_⟩
  refine List.forall_mem_cons.mpr ⟨ok_icmp_ne hx hb dd_X3_quarrelsIn_16 (by decide), ?_⟩
  refine List.forall_mem_cons.mpr ⟨ok_iinc hx hb dd_X3_quarrelsIn_19 (by decide), ?_⟩
  refine List.forall_mem_cons.mpr ⟨ok_iinc hx hb dd_X3_quarrelsIn_22 (by decide), ?_⟩
  refine List.forall_mem_cons.mpr ⟨ok_goto hx hb dd_X3_quarrelsIn_25 (by decide), ?_⟩
  refine List.forall_mem_cons.mpr ⟨ok_iload_n hx hb rfl dd_X3_quarrelsIn_28, ?_⟩
  refine List.forall_mem_cons.mpr ⟨ok_iret hx hb hr hlocks hQ dd_X3_quarrelsIn_29, ?_⟩
  exact fun _ h => absurd h List.not_mem_nil
set_option maxRecDepth 100000 in
theorem vc_X3_quarrelsIn_0 {kd : Nat → Nat} {K : zK} {X : zX} (hX : ∀ (n pc : Nat) (ls : zLS) (st : List zV) (M : zM), zrun (tb_X3_quarrelsIn kd K) [(4, [])] n X pc ls st M → X pc ls st M) {t : Nat} {y : Int32} {M : zM}  (h : X 4 [some (zR t 0), some (zI (y)), some (zI ((0 : Int32))), some (zI ((0 : Int32)))] [] M) : X 0 [some (zR t 0), some (zI (y)), none, none] [] M := hX 6 0 _ [] M (show X 4 [some (zR t 0), some (zI (y)), some (zI ((0 : Int32))), some (zI ((0 : Int32)))] [] M from h)
set_option maxRecDepth 100000 in
theorem vc_X3_quarrelsIn_4 {kd : Nat → Nat} {K : zK} {X : zX} (hX : ∀ (n pc : Nat) (ls : zLS) (st : List zV) (M : zM), zrun (tb_X3_quarrelsIn kd K) [(4, [])] n X pc ls st M → X pc ls st M) {t : Nat} {y : Int32} {s : Int32} {g : Int32} {M : zM} (hk0 : kd t = 3) (h : (((5 : Int32) ≤ g) → K (some (zI (s))) M) ∧ ((¬ (5 : Int32) ≤ g) → ∃ a1 : Sk, (RpS (M.1 t) a1) ∧ (0 ≤ y.toInt ∧ y.toInt < 1000000) ∧ ∀ v1 : Int32, (v1.toInt = sk_law a1 g.toInt y.toInt) → ((¬ v1 = (3 : Int32)) → X 4 [some (zR t 0), some (zI (y)), some (zI (s)), some (zI (g + 1))] [] M) ∧ ((v1 = (3 : Int32)) → X 4 [some (zR t 0), some (zI (y)), some (zI (s + 1)), some (zI (g + 1))] [] M))) : X 4 [some (zR t 0), some (zI (y)), some (zI (s)), some (zI (g))] [] M := hX 14 4 _ [] M (show (((5 : Int32) ≤ g) → K (some (zI (s))) M) ∧ ((¬ (5 : Int32) ≤ g) → (kd t = 3) ∧ ∃ a1 : Sk, (RpS (M.1 t) a1) ∧ (0 ≤ y.toInt ∧ y.toInt < 1000000) ∧ ∀ v1 : Int32, (v1.toInt = sk_law a1 g.toInt y.toInt) → ((¬ v1 = (3 : Int32)) → X 4 [some (zR t 0), some (zI (y)), some (zI (s)), some (zI (g + 1))] [] M) ∧ ((v1 = (3 : Int32)) → X 4 [some (zR t 0), some (zI (y)), some (zI (s + 1)), some (zI (g + 1))] [] M)) from ⟨fun q => have h := h.1 q; h, fun q => have h := h.2 q; ⟨hk0, h.elim (fun a1 h => ⟨a1, ⟨h.1, have h := h.2; ⟨h.1, have h := h.2; fun v1 => have h := h v1; fun q => have h := h q; ⟨fun q => have h := h.1 q; h, fun q => have h := h.2 q; h⟩⟩⟩⟩)⟩⟩)
def sp_X3_firstQuarrel : zSpec := fun kd as M K => match as with
  | [.inr (.inr (.inl (t, 0))), .inl g] => (kd t = 3) ∧ ∃ a : Sk, (RpS (M.1 t) a) ∧ ∀ v : Int32, (sk_isQ a g.toInt v.toInt) → K (some (.inl v)) M
  | _ => False
theorem rv_X3_firstQuarrel : zrv sp_X3_firstQuarrel 3 1 := by
  intro kd as M K h
  unfold sp_X3_firstQuarrel at h
  split at h
  · exact ⟨_, _, rfl, h.1⟩
  · exact h.elim
theorem dd_X3_firstQuarrel_0 : decode cX3_firstQuarrel 0 = .ok (.ldc 73, 2) := by decide +kernel
theorem dd_X3_firstQuarrel_2 : decode cX3_firstQuarrel 2 = .ok (.istore_n 2, 1) := by decide +kernel
theorem dd_X3_firstQuarrel_3 : decode cX3_firstQuarrel 3 = .ok (.iconst 0, 1) := by decide +kernel
theorem dd_X3_firstQuarrel_4 : decode cX3_firstQuarrel 4 = .ok (.istore_n 3, 1) := by decide +kernel
theorem dd_X3_firstQuarrel_5 : decode cX3_firstQuarrel 5 = .ok (.iload_n 3, 1) := by decide +kernel
theorem dd_X3_firstQuarrel_6 : decode cX3_firstQuarrel 6 = .ok (.bipush 6, 2) := by decide +kernel
theorem dd_X3_firstQuarrel_8 : decode cX3_firstQuarrel 8 = .ok (.if_icmp .ge 88, 3) := by decide +kernel
theorem dd_X3_firstQuarrel_11 : decode cX3_firstQuarrel 11 = .ok (.iconst 0, 1) := by decide +kernel
theorem dd_X3_firstQuarrel_12 : decode cX3_firstQuarrel 12 = .ok (.istore 4, 2) := by decide +kernel
theorem dd_X3_firstQuarrel_14 : decode cX3_firstQuarrel 14 = .ok (.iload 4, 2) := by decide +kernel
theorem dd_X3_firstQuarrel_16 : decode cX3_firstQuarrel 16 = .ok (.iconst 4, 1) := by decide +kernel
theorem dd_X3_firstQuarrel_17 : decode cX3_firstQuarrel 17 = .ok (.if_icmp .ge 73, 3) := by decide +kernel
theorem dd_X3_firstQuarrel_20 : decode cX3_firstQuarrel 20 = .ok (.aload_n 0, 1) := by decide +kernel
theorem dd_X3_firstQuarrel_21 : decode cX3_firstQuarrel 21 = .ok (.iload_n 3, 1) := by decide +kernel
theorem dd_X3_firstQuarrel_22 : decode cX3_firstQuarrel 22 = .ok (.iload 4, 2) := by decide +kernel
theorem dd_X3_firstQuarrel_24 : decode cX3_firstQuarrel 24 = .ok (.invokevirtual 40, 3) := by decide +kernel
theorem dd_X3_firstQuarrel_27 : decode cX3_firstQuarrel 27 = .ok (.istore 5, 2) := by decide +kernel
theorem dd_X3_firstQuarrel_29 : decode cX3_firstQuarrel 29 = .ok (.iload 5, 2) := by decide +kernel
theorem dd_X3_firstQuarrel_31 : decode cX3_firstQuarrel 31 = .ok (.iconst (-1), 1) := by decide +kernel
theorem dd_X3_firstQuarrel_32 : decode cX3_firstQuarrel 32 = .ok (.if_icmp .eq 52, 3) := by decide +kernel
theorem dd_X3_firstQuarrel_35 : decode cX3_firstQuarrel 35 = .ok (.aload_n 0, 1) := by decide +kernel
theorem dd_X3_firstQuarrel_36 : decode cX3_firstQuarrel 36 = .ok (.getfield 18, 3) := by decide +kernel
theorem dd_X3_firstQuarrel_39 : decode cX3_firstQuarrel 39 = .ok (.iload 5, 2) := by decide +kernel
theorem dd_X3_firstQuarrel_41 : decode cX3_firstQuarrel 41 = .ok (.iaload, 1) := by decide +kernel
theorem dd_X3_firstQuarrel_42 : decode cX3_firstQuarrel 42 = .ok (.iload_n 1, 1) := by decide +kernel
theorem dd_X3_firstQuarrel_43 : decode cX3_firstQuarrel 43 = .ok (.if_icmp .eq 6, 3) := by decide +kernel
theorem dd_X3_firstQuarrel_46 : decode cX3_firstQuarrel 46 = .ok (.goto 38, 3) := by decide +kernel
theorem dd_X3_firstQuarrel_49 : decode cX3_firstQuarrel 49 = .ok (.aload_n 0, 1) := by decide +kernel
theorem dd_X3_firstQuarrel_50 : decode cX3_firstQuarrel 50 = .ok (.aload_n 0, 1) := by decide +kernel
theorem dd_X3_firstQuarrel_51 : decode cX3_firstQuarrel 51 = .ok (.getfield 15, 3) := by decide +kernel
theorem dd_X3_firstQuarrel_54 : decode cX3_firstQuarrel 54 = .ok (.iload 5, 2) := by decide +kernel
theorem dd_X3_firstQuarrel_56 : decode cX3_firstQuarrel 56 = .ok (.iaload, 1) := by decide +kernel
theorem dd_X3_firstQuarrel_57 : decode cX3_firstQuarrel 57 = .ok (.iload 5, 2) := by decide +kernel
theorem dd_X3_firstQuarrel_59 : decode cX3_firstQuarrel 59 = .ok (.invokevirtual 77, 3) := by decide +kernel
theorem dd_X3_firstQuarrel_62 : decode cX3_firstQuarrel 62 = .ok (.istore 6, 2) := by decide +kernel
theorem dd_X3_firstQuarrel_64 : decode cX3_firstQuarrel 64 = .ok (.iload 6, 2) := by decide +kernel
theorem dd_X3_firstQuarrel_66 : decode cX3_firstQuarrel 66 = .ok (.iload_n 2, 1) := by decide +kernel
theorem dd_X3_firstQuarrel_67 : decode cX3_firstQuarrel 67 = .ok (.if_icmp .ge 17, 3) := by decide +kernel
theorem dd_X3_firstQuarrel_70 : decode cX3_firstQuarrel 70 = .ok (.aload_n 0, 1) := by decide +kernel
theorem dd_X3_firstQuarrel_71 : decode cX3_firstQuarrel 71 = .ok (.iload_n 1, 1) := by decide +kernel
theorem dd_X3_firstQuarrel_72 : decode cX3_firstQuarrel 72 = .ok (.iload 6, 2) := by decide +kernel
theorem dd_X3_firstQuarrel_74 : decode cX3_firstQuarrel 74 = .ok (.invokevirtual 98, 3) := by decide +kernel
theorem dd_X3_firstQuarrel_77 : decode cX3_firstQuarrel 77 = .ok (.iconst 3, 1) := by decide +kernel
theorem dd_X3_firstQuarrel_78 : decode cX3_firstQuarrel 78 = .ok (.if_icmp .ne 6, 3) := by decide +kernel
theorem dd_X3_firstQuarrel_81 : decode cX3_firstQuarrel 81 = .ok (.iload 6, 2) := by decide +kernel
theorem dd_X3_firstQuarrel_83 : decode cX3_firstQuarrel 83 = .ok (.istore_n 2, 1) := by decide +kernel
theorem dd_X3_firstQuarrel_84 : decode cX3_firstQuarrel 84 = .ok (.iinc 4 1, 3) := by decide +kernel
theorem dd_X3_firstQuarrel_87 : decode cX3_firstQuarrel 87 = .ok (.goto (-73), 3) := by decide +kernel
theorem dd_X3_firstQuarrel_90 : decode cX3_firstQuarrel 90 = .ok (.iinc 3 1, 3) := by decide +kernel
theorem dd_X3_firstQuarrel_93 : decode cX3_firstQuarrel 93 = .ok (.goto (-88), 3) := by decide +kernel
theorem dd_X3_firstQuarrel_96 : decode cX3_firstQuarrel 96 = .ok (.iload_n 2, 1) := by decide +kernel
theorem dd_X3_firstQuarrel_97 : decode cX3_firstQuarrel 97 = .ok (.ldc 73, 2) := by decide +kernel
theorem dd_X3_firstQuarrel_99 : decode cX3_firstQuarrel 99 = .ok (.if_icmp .ne 7, 3) := by decide +kernel
theorem dd_X3_firstQuarrel_102 : decode cX3_firstQuarrel 102 = .ok (.iconst (-1), 1) := by decide +kernel
theorem dd_X3_firstQuarrel_103 : decode cX3_firstQuarrel 103 = .ok (.goto 4, 3) := by decide +kernel
theorem dd_X3_firstQuarrel_106 : decode cX3_firstQuarrel 106 = .ok (.iload_n 2, 1) := by decide +kernel
theorem dd_X3_firstQuarrel_107 : decode cX3_firstQuarrel 107 = .ok (.ireturn, 1) := by decide +kernel
def tb_X3_firstQuarrel (kd : Nat → Nat) (K : zK) : zTab := [(0, zt_const (zI 1000000) 2), (2, zt_istore 2 3), (3, zt_const (zI 0) 4), (4, zt_istore 3 5), (5, zt_iload 3 6), (6, zt_const (zI 6) 8), (8, zt_icmp (fun x y => y ≤ x) (fun x y => ¬ y ≤ x) 96 11), (11, zt_const (zI 0) 12), (12, zt_istore 4 14), (14, zt_iload 4 16), (16, zt_const (zI 4) 17), (17, zt_icmp (fun x y => y ≤ x) (fun x y => ¬ y ≤ x) 90 20), (20, zt_aload 0 21), (21, zt_iload 3 22), (22, zt_iload 4 24), (24, zt_call kd sp_X3_slot 3 27), (27, zt_istore 5 29), (29, zt_iload 5 31), (31, zt_const (zI (-1)) 32), (32, zt_icmp (fun x y => x = y) (fun x y => ¬ x = y) 84 35), (35, zt_aload 0 36), (36, zt_getR kd 3 0 3 39), (39, zt_iload 5 41), (41, zt_ald kd 0 42), (42, zt_iload 1 43), (43, zt_icmp (fun x y => x = y) (fun x y => ¬ x = y) 49 46), (46, zt_goto 84), (49, zt_aload 0 50), (50, zt_aload 0 51), (51, zt_getR kd 3 0 2 54), (54, zt_iload 5 56), (56, zt_ald kd 0 57), (57, zt_iload 5 59), (59, zt_call kd sp_X3_opens 3 62), (62, zt_istore 6 64), (64, zt_iload 6 66), (66, zt_iload 2 67), (67, zt_icmp (fun x y => y ≤ x) (fun x y => ¬ y ≤ x) 84 70), (70, zt_aload 0 71), (71, zt_iload 1 72), (72, zt_iload 6 74), (74, zt_call kd sp_X3_law 3 77), (77, zt_const (zI 3) 78), (78, zt_icmp (fun x y => ¬ x = y) (fun x y => x = y) 84 81), (81, zt_iload 6 83), (83, zt_istore 2 84), (84, zt_iinc 4 1 87), (87, zt_goto 14), (90, zt_iinc 3 1 93), (93, zt_goto 5), (96, zt_iload 2 97), (97, zt_const (zI 1000000) 99), (99, zt_icmp (fun x y => ¬ x = y) (fun x y => x = y) 106 102), (102, zt_const (zI (-1)) 103), (103, zt_goto 107), (106, zt_iload 2 107), (107, zt_iret K)]
set_option maxRecDepth 20000 in
theorem tk_X3_firstQuarrel (d : Nat) (h_X3_slot : zMS 1 yX3_slot cX3_slot 3 (some .int) sp_X3_slot) (h_X3_opens : zMS 1 yX3_opens cX3_opens 3 (some .int) sp_X3_opens) (h_X3_law : zMS 5 yX3_law cX3_law 5 (some .int) sp_X3_law) : zTrue RX3 cX3_firstQuarrel 7 (some .int) (d + 6) (fun kd K => tb_X3_firstQuarrel kd K) := by
  intro p l e R s m args below meth c D cy A ad bl Qm K C0 hr hlocks hQ
  obtain ⟨hx, hb, hml, hown, hts, hK, hD, hA0, hN, hE, ⟨hR1, hR2⟩, hc1, hc2⟩ := id C0
  unfold tb_X3_firstQuarrel
  refine List.forall_mem_cons.mpr ⟨ok_ldc hx hb hown (hts _ wd_563) dd_X3_firstQuarrel_0, ?_⟩
  refine List.forall_mem_cons.mpr ⟨ok_istore_n hx hb rfl dd_X3_firstQuarrel_2, ?_⟩
  refine List.forall_mem_cons.mpr ⟨ok_iconst hx hb dd_X3_firstQuarrel_3 (by decide), ?_⟩
  refine List.forall_mem_cons.mpr ⟨ok_istore_n hx hb rfl dd_X3_firstQuarrel_4, ?_⟩
  refine List.forall_mem_cons.mpr ⟨ok_iload_n hx hb rfl dd_X3_firstQuarrel_5, ?_⟩
  refine List.forall_mem_cons.mpr ⟨ok_bipush hx hb dd_X3_firstQuarrel_6 (by decide), ?_⟩
  refine List.forall_mem_cons.mpr ⟨ok_icmp_ge hx hb dd_X3_firstQuarrel_8 (by decide), ?_⟩
  refine List.forall_mem_cons.mpr ⟨ok_iconst hx hb dd_X3_firstQuarrel_11 (by decide), ?_⟩
  refine List.forall_mem_cons.mpr ⟨ok_istore hx hb dd_X3_firstQuarrel_12, ?_⟩
  refine List.forall_mem_cons.mpr ⟨ok_iload hx hb dd_X3_firstQuarrel_14, ?_⟩
  refine List.forall_mem_cons.mpr ⟨ok_iconst hx hb dd_X3_firstQuarrel_16 (by decide), ?_⟩
  refine List.forall_mem_cons.mpr ⟨ok_icmp_ge hx hb dd_X3_firstQuarrel_17 (by decide), ?_⟩
  refine List.forall_mem_cons.mpr ⟨ok_aload_n hx hb rfl dd_X3_firstQuarrel_20, ?_⟩
  refine List.forall_mem_cons.mpr ⟨ok_iload_n hx hb rfl dd_X3_firstQuarrel_21, ?_⟩
  refine List.forall_mem_cons.mpr ⟨ok_iload hx hb dd_X3_firstQuarrel_22, ?_⟩
  refine List.forall_mem_cons.mpr ⟨ok_callV (n := 2) zc_X3 rv_X3_slot C0 (h_X3_slot (d + 5) (by omega)) (by decide) wd_341 wd_338 wd_340 wd_6 wd_102 ⟨rfl, by decide +kernel, by decide +kernel, by decide +kernel⟩ dd_X3_firstQuarrel_24, ?_⟩
  refine List.forall_mem_cons.mpr ⟨ok_istore hx hb dd_X3_firstQuarrel_27, ?_⟩
  refine List.forall_mem_cons.mpr ⟨ok_iload hx hb dd_X3_firstQuarrel_29, ?_⟩
  refine List.forall_mem_cons.mpr ⟨ok_iconst hx hb dd_X3_firstQuarrel_31 (by decide), ?_⟩
  refine List.forall_mem_cons.mpr ⟨ok_icmp_eq hx hb dd_X3_firstQuarrel_32 (by decide), ?_⟩
  refine List.forall_mem_cons.mpr ⟨ok_aload_n hx hb rfl dd_X3_firstQuarrel_35, ?_⟩
  refine List.forall_mem_cons.mpr ⟨ok_getR (j := 2) hx hb hts zi_X3 hown hK zc_X3 (by decide) rfl (fun t fl h => by cases h; rfl) (hts _ wd_139) dd_X3_firstQuarrel_36, ?_⟩
  refine List.forall_mem_cons.mpr ⟨ok_iload hx hb dd_X3_firstQuarrel_39, ?_⟩
  refine List.forall_mem_cons.mpr ⟨ok_ald (ty := 0) rfl hx hb hK (Or.inl ⟨rfl, rfl, dd_X3_firstQuarrel_41⟩), ?_⟩
  refine List.forall_mem_cons.mpr ⟨ok_iload_n hx hb rfl dd_X3_firstQuarrel_42, ?_⟩
  refine List.forall_mem_cons.mpr ⟨ok_icmp_eq hx hb dd_X3_firstQuarrel_43 (by decide), ?_⟩
  refine List.forall_mem_cons.mpr ⟨ok_goto hx hb dd_X3_firstQuarrel_46 (by decide), ?_⟩
  refine List.forall_mem_cons.mpr ⟨ok_aload_n hx hb rfl dd_X3_firstQuarrel_49, ?_⟩
  refine List.forall_mem_cons.mpr ⟨ok_aload_n hx hb rfl dd_X3_firstQuarrel_50, ?_⟩
  refine List.forall_mem_cons.mpr ⟨ok_getR (j := 1) hx hb hts zi_X3 hown hK zc_X3 (by decide) rfl (fun t fl h => by cases h; rfl) (hts _ wd_138) dd_X3_firstQuarrel_51, ?_⟩
  refine List.forall_mem_cons.mpr ⟨ok_iload hx hb dd_X3_firstQuarrel_54, ?_⟩
  refine List.forall_mem_cons.mpr ⟨ok_ald (ty := 0) rfl hx hb hK (Or.inl ⟨rfl, rfl, dd_X3_firstQuarrel_56⟩), ?_⟩
  refine List.forall_mem_cons.mpr ⟨ok_iload hx hb dd_X3_firstQuarrel_57, ?_⟩
  refine List.forall_mem_cons.mpr ⟨ok_callV (n := 2) zc_X3 rv_X3_opens C0 (h_X3_opens (d + 5) (by omega)) (by decide) wd_562 wd_559 wd_561 wd_27 wd_102 ⟨rfl, by decide +kernel, by decide +kernel, by decide +kernel⟩ dd_X3_firstQuarrel_59, ?_⟩
  refine List.forall_mem_cons.mpr ⟨ok_istore hx hb dd_X3_firstQuarrel_62, ?_⟩
  refine List.forall_mem_cons.mpr ⟨ok_iload hx hb dd_X3_firstQuarrel_64, ?_⟩
  refine List.forall_mem_cons.mpr ⟨ok_iload_n hx hb rfl dd_X3_firstQuarrel_66, ?_⟩
  refine List.forall_mem_cons.mpr ⟨ok_icmp_ge hx hb dd_X3_firstQuarrel_67 (by decide), ?_⟩
  refine List.forall_mem_cons.mpr ⟨ok_aload_n hx hb rfl dd_X3_firstQuarrel_70, ?_⟩
  refine List.forall_mem_cons.mpr ⟨ok_iload_n hx hb rfl dd_X3_firstQuarrel_71, ?_⟩
  refine List.forall_mem_cons.mpr ⟨ok_iload hx hb dd_X3_firstQuarrel_72, ?_⟩
  refine List.forall_mem_cons.mpr ⟨ok_callV (n := 2) zc_X3 rv_X3_law C0 (h_X3_law (d + 5) (by omega)) (by decide) wd_578 wd_603 wd_577 wd_29 wd_102 ⟨rfl, by decide +kernel, by decide +kernel, by decide +kernel⟩ dd_X3_firstQuarrel_74, ?_⟩
  refine List.forall_mem_cons.mpr ⟨ok_iconst hx hb dd_X3_firstQuarrel_77 (by decide), ?_⟩
  refine List.forall_mem_cons.mpr ⟨ok_icmp_ne hx hb dd_X3_firstQuarrel_78 (by decide), ?_⟩
  refine List.forall_mem_cons.mpr ⟨ok_iload hx hb dd_X3_firstQuarrel_81, ?_⟩
  refine List.forall_mem_cons.mpr ⟨ok_istore_n hx hb rfl dd_X3_firstQuarrel_83, ?_⟩
  refine List.forall_mem_cons.mpr ⟨ok_iinc hx hb dd_X3_firstQuarrel_84 (by decide), ?_⟩
  refine List.forall_mem_cons.mpr ⟨ok_goto hx hb dd_X3_firstQuarrel_87 (by decide), ?_⟩
  refine List.forall_mem_cons.mpr ⟨ok_iinc hx hb dd_X3_firstQuarrel_90 (by decide), ?_⟩
  refine List.forall_mem_cons.mpr ⟨ok_goto hx hb dd_X3_firstQuarrel_93 (by decide), ?_⟩
  refine List.forall_mem_cons.mpr ⟨ok_iload_n hx hb rfl dd_X3_firstQuarrel_96, ?_⟩
  refine List.forall_mem_cons.mpr ⟨ok_ldc hx hb hown (hts _ wd_563) dd_X3_firstQuarrel_97, ?_⟩
  refine List.forall_mem_cons.mpr ⟨ok_icmp_ne hx hb dd_X3_firstQuarrel_99 (by decide), ?_⟩
  refine List.forall_mem_cons.mpr ⟨ok_iconst hx hb dd_X3_firstQuarrel_102 (by decide), ?_⟩
  refine List.forall_mem_cons.mpr ⟨ok_goto hx hb dd_X3_firstQuarrel_103 (by decide), ?_⟩
  refine List.forall_mem_cons.mpr ⟨ok_iload_n hx hb rfl dd_X3_firstQuarrel_106, ?_⟩
  refine List.forall_mem_cons.mpr ⟨ok_iret hx hb hr hlocks hQ dd_X3_firstQuarrel_107, ?_⟩
  exact fun _ h => absurd h List.not_mem_nil
set_option maxRecDepth 100000 in
theorem vc_X3_firstQuarrel_0 {kd : Nat → Nat} {K : zK} {X : zX} (hX : ∀ (n pc : Nat) (ls : zLS) (st : List zV) (M : zM), zrun (tb_X3_firstQuarrel kd K) [(5, [4, 5, 6]), (14, [5, 6])] n X pc ls st M → X pc ls st M) {t : Nat} {g : Int32} {M : zM}  (h : X 5 [some (zR t 0), some (zI (g)), some (zI ((1000000 : Int32))), some (zI ((0 : Int32))), none, none, none] [] M) : X 0 [some (zR t 0), some (zI (g)), none, none, none, none, none] [] M := hX 6 0 _ [] M (show X 5 [some (zR t 0), some (zI (g)), some (zI ((1000000 : Int32))), some (zI ((0 : Int32))), none, none, none] [] M from h)
set_option maxRecDepth 100000 in
theorem vc_X3_firstQuarrel_5 {kd : Nat → Nat} {K : zK} {X : zX} (hX : ∀ (n pc : Nat) (ls : zLS) (st : List zV) (M : zM), zrun (tb_X3_firstQuarrel kd K) [(5, [4, 5, 6]), (14, [5, 6])] n X pc ls st M → X pc ls st M) {t : Nat} {g : Int32} {f : Int32} {c : Int32} {M : zM}  (h : (((6 : Int32) ≤ c) → ((¬ f = (1000000 : Int32)) → K (some (zI (f))) M) ∧ ((f = (1000000 : Int32)) → K (some (zI ((-1 : Int32)))) M)) ∧ ((¬ (6 : Int32) ≤ c) → X 14 [some (zR t 0), some (zI (g)), some (zI (f)), some (zI (c)), some (zI ((0 : Int32))), none, none] [] M)) : X 5 [some (zR t 0), some (zI (g)), some (zI (f)), some (zI (c)), none, none, none] [] M := hX 10 5 _ [] M (show (((6 : Int32) ≤ c) → ((¬ f = (1000000 : Int32)) → K (some (zI (f))) M) ∧ ((f = (1000000 : Int32)) → K (some (zI ((-1 : Int32)))) M)) ∧ ((¬ (6 : Int32) ≤ c) → X 14 [some (zR t 0), some (zI (g)), some (zI (f)), some (zI (c)), some (zI ((0 : Int32))), none, none] [] M) from ⟨fun q => have h := h.1 q; ⟨fun q => have h := h.1 q; h, fun q => have h := h.2 q; h⟩, fun q => have h := h.2 q; h⟩)
set_option maxRecDepth 100000 in
theorem vc_X3_firstQuarrel_14 {kd : Nat → Nat} {K : zK} {X : zX} (hX : ∀ (n pc : Nat) (ls : zLS) (st : List zV) (M : zM), zrun (tb_X3_firstQuarrel kd K) [(5, [4, 5, 6]), (14, [5, 6])] n X pc ls st M → X pc ls st M) {t : Nat} {g : Int32} {f : Int32} {c : Int32} {i : Int32} {M : zM} (hk0 : kd t = 3) (h : (((4 : Int32) ≤ i) → X 5 [some (zR t 0), some (zI (g)), some (zI (f)), some (zI (c + 1)), none, none, none] [] M) ∧ ((¬ (4 : Int32) ≤ i) → ∃ a1 : Sk, (RpS (M.1 t) a1) ∧ ∀ v1 : Int32, (v1.toInt = if (sk_at a1 c.toInt i.toInt).isSome then 4 * c.toInt + i.toInt else -1) → ((v1 = (-1 : Int32)) → X 14 [some (zR t 0), some (zI (g)), some (zI (f)), some (zI (c)), some (zI (i + 1)), none, none] [] M) ∧ ((¬ v1 = (-1 : Int32)) → (zin (kd t) 3 0 v1) ∧ (((M.1 t 3 (v1).toNatClampNeg) = g) → (zin (kd t) 2 0 v1) ∧ ∃ a2 : Sk, (RpS (M.1 t) a2) ∧ ∃ c2 : Nat, ∃ i2 : Nat, ∃ l2 : Ly, (c2 < 6) ∧ ((a2.1 c2)[i2]? = some l2) ∧ (v1.toInt = 4 * (c2 : Int) + i2) ∧ ∀ v2 : Int32, (v2.toInt = opn (M.1 t 2 (v1).toNatClampNeg).toInt l2) → ((f ≤ v2) → X 14 [some (zR t 0), some (zI (g)), some (zI (f)), some (zI (c)), some (zI (i + 1)), none, none] [] M) ∧ ((¬ f ≤ v2) → ∃ a3 : Sk, (RpS (M.1 t) a3) ∧ (0 ≤ v2.toInt ∧ v2.toInt < 1000000) ∧ ∀ v3 : Int32, (v3.toInt = sk_law a3 g.toInt v2.toInt) → ((¬ v3 = (3 : Int32)) → X 14 [some (zR t 0), some (zI (g)), some (zI (f)), some (zI (c)), some (zI (i + 1)), none, none] [] M) ∧ ((v3 = (3 : Int32)) → X 14 [some (zR t 0), some (zI (g)), some (zI (v2)), some (zI (c)), some (zI (i + 1)), none, none] [] M))) ∧ ((¬ (M.1 t 3 (v1).toNatClampNeg) = g) → X 14 [some (zR t 0), some (zI (g)), some (zI (f)), some (zI (c)), some (zI (i + 1)), none, none] [] M)))) : X 14 [some (zR t 0), some (zI (g)), some (zI (f)), some (zI (c)), some (zI (i)), none, none] [] M := hX 40 14 _ [] M (show (((4 : Int32) ≤ i) → X 5 [some (zR t 0), some (zI (g)), some (zI (f)), some (zI (c + 1)), none, none, none] [] M) ∧ ((¬ (4 : Int32) ≤ i) → (kd t = 3) ∧ ∃ a1 : Sk, (RpS (M.1 t) a1) ∧ ∀ v1 : Int32, (v1.toInt = if (sk_at a1 c.toInt i.toInt).isSome then 4 * c.toInt + i.toInt else -1) → ((v1 = (-1 : Int32)) → X 14 [some (zR t 0), some (zI (g)), some (zI (f)), some (zI (c)), some (zI (i + 1)), none, none] [] M) ∧ ((¬ v1 = (-1 : Int32)) → (kd t = 3) ∧ (zin (kd t) 3 0 v1) ∧ (((M.1 t 3 (v1).toNatClampNeg) = g) → (kd t = 3) ∧ (zin (kd t) 2 0 v1) ∧ (kd t = 3) ∧ ∃ a2 : Sk, (RpS (M.1 t) a2) ∧ ∃ c2 : Nat, ∃ i2 : Nat, ∃ l2 : Ly, (c2 < 6) ∧ ((a2.1 c2)[i2]? = some l2) ∧ (v1.toInt = 4 * (c2 : Int) + i2) ∧ ∀ v2 : Int32, (v2.toInt = opn (M.1 t 2 (v1).toNatClampNeg).toInt l2) → ((f ≤ v2) → X 14 [some (zR t 0), some (zI (g)), some (zI (f)), some (zI (c)), some (zI (i + 1)), none, none] [] M) ∧ ((¬ f ≤ v2) → (kd t = 3) ∧ ∃ a3 : Sk, (RpS (M.1 t) a3) ∧ (0 ≤ v2.toInt ∧ v2.toInt < 1000000) ∧ ∀ v3 : Int32, (v3.toInt = sk_law a3 g.toInt v2.toInt) → ((¬ v3 = (3 : Int32)) → X 14 [some (zR t 0), some (zI (g)), some (zI (f)), some (zI (c)), some (zI (i + 1)), none, none] [] M) ∧ ((v3 = (3 : Int32)) → X 14 [some (zR t 0), some (zI (g)), some (zI (v2)), some (zI (c)), some (zI (i + 1)), none, none] [] M))) ∧ ((¬ (M.1 t 3 (v1).toNatClampNeg) = g) → X 14 [some (zR t 0), some (zI (g)), some (zI (f)), some (zI (c)), some (zI (i + 1)), none, none] [] M))) from ⟨fun q => have h := h.1 q; h, fun q => have h := h.2 q; ⟨hk0, h.elim (fun a1 h => ⟨a1, ⟨h.1, have h := h.2; fun v1 => have h := h v1; fun q => have h := h q; ⟨fun q => have h := h.1 q; h, fun q => have h := h.2 q; ⟨hk0, ⟨h.1, have h := h.2; ⟨fun q => have h := h.1 q; ⟨hk0, ⟨h.1, have h := h.2; ⟨hk0, h.elim (fun a2 h => ⟨a2, ⟨h.1, have h := h.2; h.elim (fun c2 h => ⟨c2, h.elim (fun i2 h => ⟨i2, h.elim (fun l2 h => ⟨l2, ⟨h.1, have h := h.2; ⟨h.1, have h := h.2; ⟨h.1, have h := h.2; fun v2 => have h := h v2; fun q => have h := h q; ⟨fun q => have h := h.1 q; h, fun q => have h := h.2 q; ⟨hk0, h.elim (fun a3 h => ⟨a3, ⟨h.1, have h := h.2; ⟨h.1, have h := h.2; fun v3 => have h := h v3; fun q => have h := h q; ⟨fun q => have h := h.1 q; h, fun q => have h := h.2 q; h⟩⟩⟩⟩)⟩⟩⟩⟩⟩⟩)⟩)⟩)⟩⟩)⟩⟩⟩, fun q => have h := h.2 q; h⟩⟩⟩⟩⟩⟩)⟩⟩)
def sp_X3_tornSide : zSpec := fun kd as M K => match as with
  | [.inr (.inr (.inl (t, 0))), .inl g, .inl y] => (kd t = 3) ∧ ∃ a : Sk, (RpS (M.1 t) a) ∧ (0 ≤ y.toInt ∧ y.toInt < 1000000) ∧ ∀ v : Int32, (v.toInt = sk_side a g.toInt y.toInt) → K (some (.inl v)) M
  | _ => False
theorem rv_X3_tornSide : zrv sp_X3_tornSide 3 2 := by
  intro kd as M K h
  unfold sp_X3_tornSide at h
  split at h
  · exact ⟨_, _, rfl, h.1⟩
  · exact h.elim
theorem dd_X3_tornSide_0 : decode cX3_tornSide 0 = .ok (.aload_n 0, 1) := by decide +kernel
theorem dd_X3_tornSide_1 : decode cX3_tornSide 1 = .ok (.iload_n 1, 1) := by decide +kernel
theorem dd_X3_tornSide_2 : decode cX3_tornSide 2 = .ok (.iconst 1, 1) := by decide +kernel
theorem dd_X3_tornSide_3 : decode cX3_tornSide 3 = .ok (.iload_n 2, 1) := by decide +kernel
theorem dd_X3_tornSide_4 : decode cX3_tornSide 4 = .ok (.invokevirtual 101, 3) := by decide +kernel
theorem dd_X3_tornSide_7 : decode cX3_tornSide 7 = .ok (.istore_n 3, 1) := by decide +kernel
theorem dd_X3_tornSide_8 : decode cX3_tornSide 8 = .ok (.aload_n 0, 1) := by decide +kernel
theorem dd_X3_tornSide_9 : decode cX3_tornSide 9 = .ok (.iload_n 1, 1) := by decide +kernel
theorem dd_X3_tornSide_10 : decode cX3_tornSide 10 = .ok (.iconst 0, 1) := by decide +kernel
theorem dd_X3_tornSide_11 : decode cX3_tornSide 11 = .ok (.iload_n 2, 1) := by decide +kernel
theorem dd_X3_tornSide_12 : decode cX3_tornSide 12 = .ok (.invokevirtual 101, 3) := by decide +kernel
theorem dd_X3_tornSide_15 : decode cX3_tornSide 15 = .ok (.istore 4, 2) := by decide +kernel
theorem dd_X3_tornSide_17 : decode cX3_tornSide 17 = .ok (.iload_n 3, 1) := by decide +kernel
theorem dd_X3_tornSide_18 : decode cX3_tornSide 18 = .ok (.ifCond .eq 8, 3) := by decide +kernel
theorem dd_X3_tornSide_21 : decode cX3_tornSide 21 = .ok (.iload 4, 2) := by decide +kernel
theorem dd_X3_tornSide_23 : decode cX3_tornSide 23 = .ok (.ifCond .ne 5, 3) := by decide +kernel
theorem dd_X3_tornSide_26 : decode cX3_tornSide 26 = .ok (.iconst (-1), 1) := by decide +kernel
theorem dd_X3_tornSide_27 : decode cX3_tornSide 27 = .ok (.ireturn, 1) := by decide +kernel
theorem dd_X3_tornSide_28 : decode cX3_tornSide 28 = .ok (.iload_n 3, 1) := by decide +kernel
theorem dd_X3_tornSide_29 : decode cX3_tornSide 29 = .ok (.iload 4, 2) := by decide +kernel
theorem dd_X3_tornSide_31 : decode cX3_tornSide 31 = .ok (.if_icmp .gt 7, 3) := by decide +kernel
theorem dd_X3_tornSide_34 : decode cX3_tornSide 34 = .ok (.iconst 1, 1) := by decide +kernel
theorem dd_X3_tornSide_35 : decode cX3_tornSide 35 = .ok (.goto 4, 3) := by decide +kernel
theorem dd_X3_tornSide_38 : decode cX3_tornSide 38 = .ok (.iconst 0, 1) := by decide +kernel
theorem dd_X3_tornSide_39 : decode cX3_tornSide 39 = .ok (.ireturn, 1) := by decide +kernel
def tb_X3_tornSide (kd : Nat → Nat) (K : zK) : zTab := [(0, zt_aload 0 1), (1, zt_iload 1 2), (2, zt_const (zI 1) 3), (3, zt_iload 2 4), (4, zt_call kd sp_X3_tally 4 7), (7, zt_istore 3 8), (8, zt_aload 0 9), (9, zt_iload 1 10), (10, zt_const (zI 0) 11), (11, zt_iload 2 12), (12, zt_call kd sp_X3_tally 4 15), (15, zt_istore 4 17), (17, zt_iload 3 18), (18, zt_if (fun x => x = 0) (fun x => ¬ x = 0) 26 21), (21, zt_iload 4 23), (23, zt_if (fun x => ¬ x = 0) (fun x => x = 0) 28 26), (26, zt_const (zI (-1)) 27), (27, zt_iret K), (28, zt_iload 3 29), (29, zt_iload 4 31), (31, zt_icmp (fun x y => y < x) (fun x y => ¬ y < x) 38 34), (34, zt_const (zI 1) 35), (35, zt_goto 39), (38, zt_const (zI 0) 39), (39, zt_iret K)]
set_option maxRecDepth 20000 in
theorem tk_X3_tornSide (d : Nat) (h_X3_tally : zMS 4 yX3_tally cX3_tally 8 (some .int) sp_X3_tally) : zTrue RX3 cX3_tornSide 5 (some .int) (d + 5) (fun kd K => tb_X3_tornSide kd K) := by
  intro p l e R s m args below meth c D cy A ad bl Qm K C0 hr hlocks hQ
  obtain ⟨hx, hb, hml, hown, hts, hK, hD, hA0, hN, hE, ⟨hR1, hR2⟩, hc1, hc2⟩ := id C0
  unfold tb_X3_tornSide
  refine List.forall_mem_cons.mpr ⟨ok_aload_n hx hb rfl dd_X3_tornSide_0, ?_⟩
  refine List.forall_mem_cons.mpr ⟨ok_iload_n hx hb rfl dd_X3_tornSide_1, ?_⟩
  refine List.forall_mem_cons.mpr ⟨ok_iconst hx hb dd_X3_tornSide_2 (by decide), ?_⟩
  refine List.forall_mem_cons.mpr ⟨ok_iload_n hx hb rfl dd_X3_tornSide_3, ?_⟩
  refine List.forall_mem_cons.mpr ⟨ok_callV (n := 3) zc_X3 rv_X3_tally C0 (h_X3_tally (d + 4) (by omega)) (by decide) wd_615 wd_612 wd_614 wd_34 wd_102 ⟨rfl, by decide +kernel, by decide +kernel, by decide +kernel⟩ dd_X3_tornSide_4, ?_⟩
  refine List.forall_mem_cons.mpr ⟨ok_istore_n hx hb rfl dd_X3_tornSide_7, ?_⟩
  refine List.forall_mem_cons.mpr ⟨ok_aload_n hx hb rfl dd_X3_tornSide_8, ?_⟩
  refine List.forall_mem_cons.mpr ⟨ok_iload_n hx hb rfl dd_X3_tornSide_9, ?_⟩
  refine List.forall_mem_cons.mpr ⟨ok_iconst hx hb dd_X3_tornSide_10 (by decide), ?_⟩
  refine List.forall_mem_cons.mpr ⟨ok_iload_n hx hb rfl dd_X3_tornSide_11, ?_⟩
  refine List.forall_mem_cons.mpr ⟨ok_callV (n := 3) zc_X3 rv_X3_tally C0 (h_X3_tally (d + 4) (by omega)) (by decide) wd_615 wd_612 wd_614 wd_34 wd_102 ⟨rfl, by decide +kernel, by decide +kernel, by decide +kernel⟩ dd_X3_tornSide_12, ?_⟩
  refine List.forall_mem_cons.mpr ⟨ok_istore hx hb dd_X3_tornSide_15, ?_⟩
  refine List.forall_mem_cons.mpr ⟨ok_iload_n hx hb rfl dd_X3_tornSide_17, ?_⟩
  refine List.forall_mem_cons.mpr ⟨ok_if_eq hx hb dd_X3_tornSide_18 (by decide), ?_⟩
  refine List.forall_mem_cons.mpr ⟨ok_iload hx hb dd_X3_tornSide_21, ?_⟩
  refine List.forall_mem_cons.mpr ⟨ok_if_ne hx hb dd_X3_tornSide_23 (by decide), ?_⟩
  refine List.forall_mem_cons.mpr ⟨ok_iconst hx hb dd_X3_tornSide_26 (by decide), ?_⟩
  refine List.forall_mem_cons.mpr ⟨ok_iret hx hb hr hlocks hQ dd_X3_tornSide_27, ?_⟩
  refine List.forall_mem_cons.mpr ⟨ok_iload_n hx hb rfl dd_X3_tornSide_28, ?_⟩
  refine List.forall_mem_cons.mpr ⟨ok_iload hx hb dd_X3_tornSide_29, ?_⟩
  refine List.forall_mem_cons.mpr ⟨ok_icmp_gt hx hb dd_X3_tornSide_31 (by decide), ?_⟩
  refine List.forall_mem_cons.mpr ⟨ok_iconst hx hb dd_X3_tornSide_34 (by decide), ?_⟩
  refine List.forall_mem_cons.mpr ⟨ok_goto hx hb dd_X3_tornSide_35 (by decide), ?_⟩
  refine List.forall_mem_cons.mpr ⟨ok_iconst hx hb dd_X3_tornSide_38 (by decide), ?_⟩
  refine List.forall_mem_cons.mpr ⟨ok_iret hx hb hr hlocks hQ dd_X3_tornSide_39, ?_⟩
  exact fun _ h => absurd h List.not_mem_nil
set_option maxRecDepth 100000 in
theorem vc_X3_tornSide_0 {kd : Nat → Nat} {K : zK} {X : zX} (hX : ∀ (n pc : Nat) (ls : zLS) (st : List zV) (M : zM), zrun (tb_X3_tornSide kd K) [] n X pc ls st M → X pc ls st M) {t : Nat} {g : Int32} {y : Int32} {M : zM} (hk0 : kd t = 3) (h : ∃ a1 : Sk, (RpS (M.1 t) a1) ∧ (0 ≤ y.toInt ∧ y.toInt < 1000000) ∧ ∀ v1 : Int32, (v1.toInt = sk_N a1 g.toInt (1 : Int32).toInt y.toInt) → ∃ a2 : Sk, (RpS (M.1 t) a2) ∧ (0 ≤ y.toInt ∧ y.toInt < 1000000) ∧ ∀ v2 : Int32, (v2.toInt = sk_N a2 g.toInt (0 : Int32).toInt y.toInt) → ((v1 = 0) → K (some (zI ((-1 : Int32)))) M) ∧ ((¬ v1 = 0) → ((¬ v2 = 0) → ((v2 < v1) → K (some (zI ((0 : Int32)))) M) ∧ ((¬ v2 < v1) → K (some (zI ((1 : Int32)))) M)) ∧ ((v2 = 0) → K (some (zI ((-1 : Int32)))) M))) : X 0 [some (zR t 0), some (zI (g)), some (zI (y)), none, none] [] M := hX 23 0 _ [] M (show (kd t = 3) ∧ ∃ a1 : Sk, (RpS (M.1 t) a1) ∧ (0 ≤ y.toInt ∧ y.toInt < 1000000) ∧ ∀ v1 : Int32, (v1.toInt = sk_N a1 g.toInt (1 : Int32).toInt y.toInt) → (kd t = 3) ∧ ∃ a2 : Sk, (RpS (M.1 t) a2) ∧ (0 ≤ y.toInt ∧ y.toInt < 1000000) ∧ ∀ v2 : Int32, (v2.toInt = sk_N a2 g.toInt (0 : Int32).toInt y.toInt) → ((v1 = 0) → K (some (zI ((-1 : Int32)))) M) ∧ ((¬ v1 = 0) → ((¬ v2 = 0) → ((v2 < v1) → K (some (zI ((0 : Int32)))) M) ∧ ((¬ v2 < v1) → K (some (zI ((1 : Int32)))) M)) ∧ ((v2 = 0) → K (some (zI ((-1 : Int32)))) M)) from ⟨hk0, h.elim (fun a1 h => ⟨a1, ⟨h.1, have h := h.2; ⟨h.1, have h := h.2; fun v1 => have h := h v1; fun q => have h := h q; ⟨hk0, h.elim (fun a2 h => ⟨a2, ⟨h.1, have h := h.2; ⟨h.1, have h := h.2; fun v2 => have h := h v2; fun q => have h := h q; ⟨fun q => have h := h.1 q; h, fun q => have h := h.2 q; ⟨fun q => have h := h.1 q; ⟨fun q => have h := h.1 q; h, fun q => have h := h.2 q; h⟩, fun q => have h := h.2 q; h⟩⟩⟩⟩⟩)⟩⟩⟩⟩)⟩)
def sp_X3_tornInAll : zSpec := fun kd as M K => match as with
  | [.inr (.inr (.inl (t, 0))), .inl y] => (kd t = 3) ∧ ∃ a : Sk, (RpS (M.1 t) a) ∧ (0 ≤ y.toInt ∧ y.toInt < 1000000) ∧ ∀ v : Int32, (v.toInt = sk_torn a y.toInt) → K (some (.inl v)) M
  | _ => False
theorem rv_X3_tornInAll : zrv sp_X3_tornInAll 3 1 := by
  intro kd as M K h
  unfold sp_X3_tornInAll at h
  split at h
  · exact ⟨_, _, rfl, h.1⟩
  · exact h.elim
theorem dd_X3_tornInAll_0 : decode cX3_tornInAll 0 = .ok (.iconst 0, 1) := by decide +kernel
theorem dd_X3_tornInAll_1 : decode cX3_tornInAll 1 = .ok (.istore_n 2, 1) := by decide +kernel
theorem dd_X3_tornInAll_2 : decode cX3_tornInAll 2 = .ok (.iconst 0, 1) := by decide +kernel
theorem dd_X3_tornInAll_3 : decode cX3_tornInAll 3 = .ok (.istore_n 3, 1) := by decide +kernel
theorem dd_X3_tornInAll_4 : decode cX3_tornInAll 4 = .ok (.iload_n 3, 1) := by decide +kernel
theorem dd_X3_tornInAll_5 : decode cX3_tornInAll 5 = .ok (.iconst 5, 1) := by decide +kernel
theorem dd_X3_tornInAll_6 : decode cX3_tornInAll 6 = .ok (.if_icmp .ge 29, 3) := by decide +kernel
theorem dd_X3_tornInAll_9 : decode cX3_tornInAll 9 = .ok (.iload_n 2, 1) := by decide +kernel
theorem dd_X3_tornInAll_10 : decode cX3_tornInAll 10 = .ok (.aload_n 0, 1) := by decide +kernel
theorem dd_X3_tornInAll_11 : decode cX3_tornInAll 11 = .ok (.iload_n 3, 1) := by decide +kernel
theorem dd_X3_tornInAll_12 : decode cX3_tornInAll 12 = .ok (.iconst 0, 1) := by decide +kernel
theorem dd_X3_tornInAll_13 : decode cX3_tornInAll 13 = .ok (.iload_n 1, 1) := by decide +kernel
theorem dd_X3_tornInAll_14 : decode cX3_tornInAll 14 = .ok (.invokevirtual 101, 3) := by decide +kernel
theorem dd_X3_tornInAll_17 : decode cX3_tornInAll 17 = .ok (.aload_n 0, 1) := by decide +kernel
theorem dd_X3_tornInAll_18 : decode cX3_tornInAll 18 = .ok (.iload_n 3, 1) := by decide +kernel
theorem dd_X3_tornInAll_19 : decode cX3_tornInAll 19 = .ok (.iconst 1, 1) := by decide +kernel
theorem dd_X3_tornInAll_20 : decode cX3_tornInAll 20 = .ok (.iload_n 1, 1) := by decide +kernel
theorem dd_X3_tornInAll_21 : decode cX3_tornInAll 21 = .ok (.invokevirtual 101, 3) := by decide +kernel
theorem dd_X3_tornInAll_24 : decode cX3_tornInAll 24 = .ok (.invokestatic 52, 3) := by decide +kernel
theorem dd_X3_tornInAll_27 : decode cX3_tornInAll 27 = .ok (.iadd, 1) := by decide +kernel
theorem dd_X3_tornInAll_28 : decode cX3_tornInAll 28 = .ok (.istore_n 2, 1) := by decide +kernel
theorem dd_X3_tornInAll_29 : decode cX3_tornInAll 29 = .ok (.iinc 3 1, 3) := by decide +kernel
theorem dd_X3_tornInAll_32 : decode cX3_tornInAll 32 = .ok (.goto (-28), 3) := by decide +kernel
theorem dd_X3_tornInAll_35 : decode cX3_tornInAll 35 = .ok (.iload_n 2, 1) := by decide +kernel
theorem dd_X3_tornInAll_36 : decode cX3_tornInAll 36 = .ok (.ireturn, 1) := by decide +kernel
def tb_X3_tornInAll (kd : Nat → Nat) (K : zK) : zTab := [(0, zt_const (zI 0) 1), (1, zt_istore 2 2), (2, zt_const (zI 0) 3), (3, zt_istore 3 4), (4, zt_iload 3 5), (5, zt_const (zI 5) 6), (6, zt_icmp (fun x y => y ≤ x) (fun x y => ¬ y ≤ x) 35 9), (9, zt_iload 2 10), (10, zt_aload 0 11), (11, zt_iload 3 12), (12, zt_const (zI 0) 13), (13, zt_iload 1 14), (14, zt_call kd sp_X3_tally 4 17), (17, zt_aload 0 18), (18, zt_iload 3 19), (19, zt_const (zI 1) 20), (20, zt_iload 1 21), (21, zt_call kd sp_X3_tally 4 24), (24, zt_wbin (fun x y => if y < x then y else x) 27), (27, zt_bin (fun x y => x + y) 28), (28, zt_istore 2 29), (29, zt_iinc 3 1 32), (32, zt_goto 4), (35, zt_iload 2 36), (36, zt_iret K)]
set_option maxRecDepth 20000 in
theorem tk_X3_tornInAll (d : Nat) (h_X3_tally : zMS 4 yX3_tally cX3_tally 8 (some .int) sp_X3_tally) : zTrue RX3 cX3_tornInAll 4 (some .int) (d + 5) (fun kd K => tb_X3_tornInAll kd K) := by
  intro p l e R s m args below meth c D cy A ad bl Qm K C0 hr hlocks hQ
  obtain ⟨hx, hb, hml, hown, hts, hK, hD, hA0, hN, hE, ⟨hR1, hR2⟩, hc1, hc2⟩ := id C0
  unfold tb_X3_tornInAll
  refine List.forall_mem_cons.mpr ⟨ok_iconst hx hb dd_X3_tornInAll_0 (by decide), ?_⟩
  refine List.forall_mem_cons.mpr ⟨ok_istore_n hx hb rfl dd_X3_tornInAll_1, ?_⟩
  refine List.forall_mem_cons.mpr ⟨ok_iconst hx hb dd_X3_tornInAll_2 (by decide), ?_⟩
  refine List.forall_mem_cons.mpr ⟨ok_istore_n hx hb rfl dd_X3_tornInAll_3, ?_⟩
  refine List.forall_mem_cons.mpr ⟨ok_iload_n hx hb rfl dd_X3_tornInAll_4, ?_⟩
  refine List.forall_mem_cons.mpr ⟨ok_iconst hx hb dd_X3_tornInAll_5 (by decide), ?_⟩
  refine List.forall_mem_cons.mpr ⟨ok_icmp_ge hx hb dd_X3_tornInAll_6 (by decide), ?_⟩
  refine List.forall_mem_cons.mpr ⟨ok_iload_n hx hb rfl dd_X3_tornInAll_9, ?_⟩
  refine List.forall_mem_cons.mpr ⟨ok_aload_n hx hb rfl dd_X3_tornInAll_10, ?_⟩
  refine List.forall_mem_cons.mpr ⟨ok_iload_n hx hb rfl dd_X3_tornInAll_11, ?_⟩
  refine List.forall_mem_cons.mpr ⟨ok_iconst hx hb dd_X3_tornInAll_12 (by decide), ?_⟩
  refine List.forall_mem_cons.mpr ⟨ok_iload_n hx hb rfl dd_X3_tornInAll_13, ?_⟩
  refine List.forall_mem_cons.mpr ⟨ok_callV (n := 3) zc_X3 rv_X3_tally C0 (h_X3_tally (d + 4) (by omega)) (by decide) wd_615 wd_612 wd_614 wd_34 wd_102 ⟨rfl, by decide +kernel, by decide +kernel, by decide +kernel⟩ dd_X3_tornInAll_14, ?_⟩
  refine List.forall_mem_cons.mpr ⟨ok_aload_n hx hb rfl dd_X3_tornInAll_17, ?_⟩
  refine List.forall_mem_cons.mpr ⟨ok_iload_n hx hb rfl dd_X3_tornInAll_18, ?_⟩
  refine List.forall_mem_cons.mpr ⟨ok_iconst hx hb dd_X3_tornInAll_19 (by decide), ?_⟩
  refine List.forall_mem_cons.mpr ⟨ok_iload_n hx hb rfl dd_X3_tornInAll_20, ?_⟩
  refine List.forall_mem_cons.mpr ⟨ok_callV (n := 3) zc_X3 rv_X3_tally C0 (h_X3_tally (d + 4) (by omega)) (by decide) wd_615 wd_612 wd_614 wd_34 wd_102 ⟨rfl, by decide +kernel, by decide +kernel, by decide +kernel⟩ dd_X3_tornInAll_21, ?_⟩
  refine List.forall_mem_cons.mpr ⟨ok_mmin hx hb hml hown (hts _ wd_373) (hts _ wd_374) (hts _ wd_109) (hts _ wd_375) ⟨by omega, by omega⟩ ⟨hc1, hc2⟩ dd_X3_tornInAll_24, ?_⟩
  refine List.forall_mem_cons.mpr ⟨ok_iadd hx hb dd_X3_tornInAll_27, ?_⟩
  refine List.forall_mem_cons.mpr ⟨ok_istore_n hx hb rfl dd_X3_tornInAll_28, ?_⟩
  refine List.forall_mem_cons.mpr ⟨ok_iinc hx hb dd_X3_tornInAll_29 (by decide), ?_⟩
  refine List.forall_mem_cons.mpr ⟨ok_goto hx hb dd_X3_tornInAll_32 (by decide), ?_⟩
  refine List.forall_mem_cons.mpr ⟨ok_iload_n hx hb rfl dd_X3_tornInAll_35, ?_⟩
  refine List.forall_mem_cons.mpr ⟨ok_iret hx hb hr hlocks hQ dd_X3_tornInAll_36, ?_⟩
  exact fun _ h => absurd h List.not_mem_nil
set_option maxRecDepth 100000 in
theorem vc_X3_tornInAll_0 {kd : Nat → Nat} {K : zK} {X : zX} (hX : ∀ (n pc : Nat) (ls : zLS) (st : List zV) (M : zM), zrun (tb_X3_tornInAll kd K) [(4, [])] n X pc ls st M → X pc ls st M) {t : Nat} {y : Int32} {M : zM}  (h : X 4 [some (zR t 0), some (zI (y)), some (zI ((0 : Int32))), some (zI ((0 : Int32)))] [] M) : X 0 [some (zR t 0), some (zI (y)), none, none] [] M := hX 6 0 _ [] M (show X 4 [some (zR t 0), some (zI (y)), some (zI ((0 : Int32))), some (zI ((0 : Int32)))] [] M from h)
set_option maxRecDepth 100000 in
theorem vc_X3_tornInAll_4 {kd : Nat → Nat} {K : zK} {X : zX} (hX : ∀ (n pc : Nat) (ls : zLS) (st : List zV) (M : zM), zrun (tb_X3_tornInAll kd K) [(4, [])] n X pc ls st M → X pc ls st M) {t : Nat} {y : Int32} {s : Int32} {g : Int32} {M : zM} (hk0 : kd t = 3) (h : (((5 : Int32) ≤ g) → K (some (zI (s))) M) ∧ ((¬ (5 : Int32) ≤ g) → ∃ a1 : Sk, (RpS (M.1 t) a1) ∧ (0 ≤ y.toInt ∧ y.toInt < 1000000) ∧ ∀ v1 : Int32, (v1.toInt = sk_N a1 g.toInt (0 : Int32).toInt y.toInt) → ∃ a2 : Sk, (RpS (M.1 t) a2) ∧ (0 ≤ y.toInt ∧ y.toInt < 1000000) ∧ ∀ v2 : Int32, (v2.toInt = sk_N a2 g.toInt (1 : Int32).toInt y.toInt) → X 4 [some (zR t 0), some (zI (y)), some (zI (s + (if v2 < v1 then v2 else v1))), some (zI (g + 1))] [] M)) : X 4 [some (zR t 0), some (zI (y)), some (zI (s)), some (zI (g))] [] M := hX 21 4 _ [] M (show (((5 : Int32) ≤ g) → K (some (zI (s))) M) ∧ ((¬ (5 : Int32) ≤ g) → (kd t = 3) ∧ ∃ a1 : Sk, (RpS (M.1 t) a1) ∧ (0 ≤ y.toInt ∧ y.toInt < 1000000) ∧ ∀ v1 : Int32, (v1.toInt = sk_N a1 g.toInt (0 : Int32).toInt y.toInt) → (kd t = 3) ∧ ∃ a2 : Sk, (RpS (M.1 t) a2) ∧ (0 ≤ y.toInt ∧ y.toInt < 1000000) ∧ ∀ v2 : Int32, (v2.toInt = sk_N a2 g.toInt (1 : Int32).toInt y.toInt) → X 4 [some (zR t 0), some (zI (y)), some (zI (s + (if v2 < v1 then v2 else v1))), some (zI (g + 1))] [] M) from ⟨fun q => have h := h.1 q; h, fun q => have h := h.2 q; ⟨hk0, h.elim (fun a1 h => ⟨a1, ⟨h.1, have h := h.2; ⟨h.1, have h := h.2; fun v1 => have h := h v1; fun q => have h := h q; ⟨hk0, h.elim (fun a2 h => ⟨a2, ⟨h.1, have h := h.2; ⟨h.1, have h := h.2; fun v2 => have h := h v2; fun q => have h := h q; h⟩⟩⟩)⟩⟩⟩⟩)⟩⟩)
def sp_X3_tornOf : zSpec := fun kd as M K => match as with
  | [.inr (.inr (.inl (t, 0))), .inl c, .inl y] => (kd t = 3) ∧ ∃ a : Sk, (RpS (M.1 t) a) ∧ (0 ≤ c.toInt ∧ c.toInt < 6) ∧ (0 ≤ y.toInt ∧ y.toInt < 1000000) ∧ ∀ v : Int32, (v.toInt = sk_tof a c.toInt y.toInt) → K (some (.inl v)) M
  | _ => False
theorem rv_X3_tornOf : zrv sp_X3_tornOf 3 2 := by
  intro kd as M K h
  unfold sp_X3_tornOf at h
  split at h
  · exact ⟨_, _, rfl, h.1⟩
  · exact h.elim
theorem dd_X3_tornOf_0 : decode cX3_tornOf 0 = .ok (.iconst 0, 1) := by decide +kernel
theorem dd_X3_tornOf_1 : decode cX3_tornOf 1 = .ok (.istore_n 3, 1) := by decide +kernel
theorem dd_X3_tornOf_2 : decode cX3_tornOf 2 = .ok (.iconst 0, 1) := by decide +kernel
theorem dd_X3_tornOf_3 : decode cX3_tornOf 3 = .ok (.istore 4, 2) := by decide +kernel
theorem dd_X3_tornOf_5 : decode cX3_tornOf 5 = .ok (.iload 4, 2) := by decide +kernel
theorem dd_X3_tornOf_7 : decode cX3_tornOf 7 = .ok (.iconst 4, 1) := by decide +kernel
theorem dd_X3_tornOf_8 : decode cX3_tornOf 8 = .ok (.if_icmp .ge 64, 3) := by decide +kernel
theorem dd_X3_tornOf_11 : decode cX3_tornOf 11 = .ok (.aload_n 0, 1) := by decide +kernel
theorem dd_X3_tornOf_12 : decode cX3_tornOf 12 = .ok (.iload_n 1, 1) := by decide +kernel
theorem dd_X3_tornOf_13 : decode cX3_tornOf 13 = .ok (.iload 4, 2) := by decide +kernel
theorem dd_X3_tornOf_15 : decode cX3_tornOf 15 = .ok (.invokevirtual 40, 3) := by decide +kernel
theorem dd_X3_tornOf_18 : decode cX3_tornOf 18 = .ok (.istore 5, 2) := by decide +kernel
theorem dd_X3_tornOf_20 : decode cX3_tornOf 20 = .ok (.iload 5, 2) := by decide +kernel
theorem dd_X3_tornOf_22 : decode cX3_tornOf 22 = .ok (.iconst (-1), 1) := by decide +kernel
theorem dd_X3_tornOf_23 : decode cX3_tornOf 23 = .ok (.if_icmp .eq 43, 3) := by decide +kernel
theorem dd_X3_tornOf_26 : decode cX3_tornOf 26 = .ok (.aload_n 0, 1) := by decide +kernel
theorem dd_X3_tornOf_27 : decode cX3_tornOf 27 = .ok (.iload_n 1, 1) := by decide +kernel
theorem dd_X3_tornOf_28 : decode cX3_tornOf 28 = .ok (.iload 4, 2) := by decide +kernel
theorem dd_X3_tornOf_30 : decode cX3_tornOf 30 = .ok (.iload_n 2, 1) := by decide +kernel
theorem dd_X3_tornOf_31 : decode cX3_tornOf 31 = .ok (.invokevirtual 88, 3) := by decide +kernel
theorem dd_X3_tornOf_34 : decode cX3_tornOf 34 = .ok (.ifCond .eq 32, 3) := by decide +kernel
theorem dd_X3_tornOf_37 : decode cX3_tornOf 37 = .ok (.aload_n 0, 1) := by decide +kernel
theorem dd_X3_tornOf_38 : decode cX3_tornOf 38 = .ok (.aload_n 0, 1) := by decide +kernel
theorem dd_X3_tornOf_39 : decode cX3_tornOf 39 = .ok (.getfield 18, 3) := by decide +kernel
theorem dd_X3_tornOf_42 : decode cX3_tornOf 42 = .ok (.iload 5, 2) := by decide +kernel
theorem dd_X3_tornOf_44 : decode cX3_tornOf 44 = .ok (.iaload, 1) := by decide +kernel
theorem dd_X3_tornOf_45 : decode cX3_tornOf 45 = .ok (.iload_n 2, 1) := by decide +kernel
theorem dd_X3_tornOf_46 : decode cX3_tornOf 46 = .ok (.invokevirtual 104, 3) := by decide +kernel
theorem dd_X3_tornOf_49 : decode cX3_tornOf 49 = .ok (.aload_n 0, 1) := by decide +kernel
theorem dd_X3_tornOf_50 : decode cX3_tornOf 50 = .ok (.getfield 21, 3) := by decide +kernel
theorem dd_X3_tornOf_53 : decode cX3_tornOf 53 = .ok (.iload 5, 2) := by decide +kernel
theorem dd_X3_tornOf_55 : decode cX3_tornOf 55 = .ok (.iaload, 1) := by decide +kernel
theorem dd_X3_tornOf_56 : decode cX3_tornOf 56 = .ok (.if_icmp .ne 10, 3) := by decide +kernel
theorem dd_X3_tornOf_59 : decode cX3_tornOf 59 = .ok (.iload_n 3, 1) := by decide +kernel
theorem dd_X3_tornOf_60 : decode cX3_tornOf 60 = .ok (.iconst 1, 1) := by decide +kernel
theorem dd_X3_tornOf_61 : decode cX3_tornOf 61 = .ok (.iload 4, 2) := by decide +kernel
theorem dd_X3_tornOf_63 : decode cX3_tornOf 63 = .ok (.ishl, 1) := by decide +kernel
theorem dd_X3_tornOf_64 : decode cX3_tornOf 64 = .ok (.ior, 1) := by decide +kernel
theorem dd_X3_tornOf_65 : decode cX3_tornOf 65 = .ok (.istore_n 3, 1) := by decide +kernel
theorem dd_X3_tornOf_66 : decode cX3_tornOf 66 = .ok (.iinc 4 1, 3) := by decide +kernel
theorem dd_X3_tornOf_69 : decode cX3_tornOf 69 = .ok (.goto (-64), 3) := by decide +kernel
theorem dd_X3_tornOf_72 : decode cX3_tornOf 72 = .ok (.iload_n 3, 1) := by decide +kernel
theorem dd_X3_tornOf_73 : decode cX3_tornOf 73 = .ok (.ireturn, 1) := by decide +kernel
def tb_X3_tornOf (kd : Nat → Nat) (K : zK) : zTab := [(0, zt_const (zI 0) 1), (1, zt_istore 3 2), (2, zt_const (zI 0) 3), (3, zt_istore 4 5), (5, zt_iload 4 7), (7, zt_const (zI 4) 8), (8, zt_icmp (fun x y => y ≤ x) (fun x y => ¬ y ≤ x) 72 11), (11, zt_aload 0 12), (12, zt_iload 1 13), (13, zt_iload 4 15), (15, zt_call kd sp_X3_slot 3 18), (18, zt_istore 5 20), (20, zt_iload 5 22), (22, zt_const (zI (-1)) 23), (23, zt_icmp (fun x y => x = y) (fun x y => ¬ x = y) 66 26), (26, zt_aload 0 27), (27, zt_iload 1 28), (28, zt_iload 4 30), (30, zt_iload 2 31), (31, zt_call kd sp_X3_bound 4 34), (34, zt_if (fun x => x = 0) (fun x => ¬ x = 0) 66 37), (37, zt_aload 0 38), (38, zt_aload 0 39), (39, zt_getR kd 3 0 3 42), (42, zt_iload 5 44), (44, zt_ald kd 0 45), (45, zt_iload 2 46), (46, zt_call kd sp_X3_tornSide 3 49), (49, zt_aload 0 50), (50, zt_getR kd 3 0 4 53), (53, zt_iload 5 55), (55, zt_ald kd 0 56), (56, zt_icmp (fun x y => ¬ x = y) (fun x y => x = y) 66 59), (59, zt_iload 3 60), (60, zt_const (zI 1) 61), (61, zt_iload 4 63), (63, zt_bin (fun x y => x <<< (y &&& 31)) 64), (64, zt_bin (fun x y => x ||| y) 65), (65, zt_istore 3 66), (66, zt_iinc 4 1 69), (69, zt_goto 5), (72, zt_iload 3 73), (73, zt_iret K)]
set_option maxRecDepth 20000 in
theorem tk_X3_tornOf (d : Nat) (h_X3_slot : zMS 1 yX3_slot cX3_slot 3 (some .int) sp_X3_slot) (h_X3_bound : zMS 4 yX3_bound cX3_bound 5 (some .boolean) sp_X3_bound) (h_X3_tornSide : zMS 5 yX3_tornSide cX3_tornSide 5 (some .int) sp_X3_tornSide) : zTrue RX3 cX3_tornOf 6 (some .int) (d + 6) (fun kd K => tb_X3_tornOf kd K) := by
  intro p l e R s m args below meth c D cy A ad bl Qm K C0 hr hlocks hQ
  obtain ⟨hx, hb, hml, hown, hts, hK, hD, hA0, hN, hE, ⟨hR1, hR2⟩, hc1, hc2⟩ := id C0
  unfold tb_X3_tornOf
  refine List.forall_mem_cons.mpr ⟨ok_iconst hx hb dd_X3_tornOf_0 (by decide), ?_⟩
  refine List.forall_mem_cons.mpr ⟨ok_istore_n hx hb rfl dd_X3_tornOf_1, ?_⟩
  refine List.forall_mem_cons.mpr ⟨ok_iconst hx hb dd_X3_tornOf_2 (by decide), ?_⟩
  refine List.forall_mem_cons.mpr ⟨ok_istore hx hb dd_X3_tornOf_3, ?_⟩
  refine List.forall_mem_cons.mpr ⟨ok_iload hx hb dd_X3_tornOf_5, ?_⟩
  refine List.forall_mem_cons.mpr ⟨ok_iconst hx hb dd_X3_tornOf_7 (by decide), ?_⟩
  refine List.forall_mem_cons.mpr ⟨ok_icmp_ge hx hb dd_X3_tornOf_8 (by decide), ?_⟩
  refine List.forall_mem_cons.mpr ⟨ok_aload_n hx hb rfl dd_X3_tornOf_11, ?_⟩
  refine List.forall_mem_cons.mpr ⟨ok_iload_n hx hb rfl dd_X3_tornOf_12, ?_⟩
  refine List.forall_mem_cons.mpr ⟨ok_iload hx hb dd_X3_tornOf_13, ?_⟩
  refine List.forall_mem_cons.mpr ⟨ok_callV (n := 2) zc_X3 rv_X3_slot C0 (h_X3_slot (d + 5) (by omega)) (by decide) wd_341 wd_338 wd_340 wd_6 wd_102 ⟨rfl, by decide +kernel, by decide +kernel, by decide +kernel⟩ dd_X3_tornOf_15, ?_⟩
  refine List.forall_mem_cons.mpr ⟨ok_istore hx hb dd_X3_tornOf_18, ?_⟩
  refine List.forall_mem_cons.mpr ⟨ok_iload hx hb dd_X3_tornOf_20, ?_⟩
  refine List.forall_mem_cons.mpr ⟨ok_iconst hx hb dd_X3_tornOf_22 (by decide), ?_⟩
  refine List.forall_mem_cons.mpr ⟨ok_icmp_eq hx hb dd_X3_tornOf_23 (by decide), ?_⟩
  refine List.forall_mem_cons.mpr ⟨ok_aload_n hx hb rfl dd_X3_tornOf_26, ?_⟩
  refine List.forall_mem_cons.mpr ⟨ok_iload_n hx hb rfl dd_X3_tornOf_27, ?_⟩
  refine List.forall_mem_cons.mpr ⟨ok_iload hx hb dd_X3_tornOf_28, ?_⟩
  refine List.forall_mem_cons.mpr ⟨ok_iload_n hx hb rfl dd_X3_tornOf_30, ?_⟩
  refine List.forall_mem_cons.mpr ⟨ok_callV (n := 3) zc_X3 rv_X3_bound C0 (h_X3_bound (d + 5) (by omega)) (by decide) wd_554 wd_591 wd_553 wd_25 wd_102 ⟨rfl, by decide +kernel, by decide +kernel, by decide +kernel⟩ dd_X3_tornOf_31, ?_⟩
  refine List.forall_mem_cons.mpr ⟨ok_if_eq hx hb dd_X3_tornOf_34 (by decide), ?_⟩
  refine List.forall_mem_cons.mpr ⟨ok_aload_n hx hb rfl dd_X3_tornOf_37, ?_⟩
  refine List.forall_mem_cons.mpr ⟨ok_aload_n hx hb rfl dd_X3_tornOf_38, ?_⟩
  refine List.forall_mem_cons.mpr ⟨ok_getR (j := 2) hx hb hts zi_X3 hown hK zc_X3 (by decide) rfl (fun t fl h => by cases h; rfl) (hts _ wd_139) dd_X3_tornOf_39, ?_⟩
  refine List.forall_mem_cons.mpr ⟨ok_iload hx hb dd_X3_tornOf_42, ?_⟩
  refine List.forall_mem_cons.mpr ⟨ok_ald (ty := 0) rfl hx hb hK (Or.inl ⟨rfl, rfl, dd_X3_tornOf_44⟩), ?_⟩
  refine List.forall_mem_cons.mpr ⟨ok_iload_n hx hb rfl dd_X3_tornOf_45, ?_⟩
  refine List.forall_mem_cons.mpr ⟨ok_callV (n := 2) zc_X3 rv_X3_tornSide C0 (h_X3_tornSide (d + 5) (by omega)) (by decide) wd_623 wd_620 wd_622 wd_36 wd_102 ⟨rfl, by decide +kernel, by decide +kernel, by decide +kernel⟩ dd_X3_tornOf_46, ?_⟩
  refine List.forall_mem_cons.mpr ⟨ok_aload_n hx hb rfl dd_X3_tornOf_49, ?_⟩
  refine List.forall_mem_cons.mpr ⟨ok_getR (j := 3) hx hb hts zi_X3 hown hK zc_X3 (by decide) rfl (fun t fl h => by cases h; rfl) (hts _ wd_140) dd_X3_tornOf_50, ?_⟩
  refine List.forall_mem_cons.mpr ⟨ok_iload hx hb dd_X3_tornOf_53, ?_⟩
  refine List.forall_mem_cons.mpr ⟨ok_ald (ty := 0) rfl hx hb hK (Or.inl ⟨rfl, rfl, dd_X3_tornOf_55⟩), ?_⟩
  refine List.forall_mem_cons.mpr ⟨ok_icmp_ne hx hb dd_X3_tornOf_56 (by decide), ?_⟩
  refine List.forall_mem_cons.mpr ⟨ok_iload_n hx hb rfl dd_X3_tornOf_59, ?_⟩
  refine List.forall_mem_cons.mpr ⟨ok_iconst hx hb dd_X3_tornOf_60 (by decide), ?_⟩
  refine List.forall_mem_cons.mpr ⟨ok_iload hx hb dd_X3_tornOf_61, ?_⟩
  refine List.forall_mem_cons.mpr ⟨ok_ishl hx hb dd_X3_tornOf_63, ?_⟩
  refine List.forall_mem_cons.mpr ⟨ok_ior hx hb dd_X3_tornOf_64, ?_⟩
  refine List.forall_mem_cons.mpr ⟨ok_istore_n hx hb rfl dd_X3_tornOf_65, ?_⟩
  refine List.forall_mem_cons.mpr ⟨ok_iinc hx hb dd_X3_tornOf_66 (by decide), ?_⟩
  refine List.forall_mem_cons.mpr ⟨ok_goto hx hb dd_X3_tornOf_69 (by decide), ?_⟩
  refine List.forall_mem_cons.mpr ⟨ok_iload_n hx hb rfl dd_X3_tornOf_72, ?_⟩
  refine List.forall_mem_cons.mpr ⟨ok_iret hx hb hr hlocks hQ dd_X3_tornOf_73, ?_⟩
  exact fun _ h => absurd h List.not_mem_nil
set_option maxRecDepth 100000 in
theorem vc_X3_tornOf_0 {kd : Nat → Nat} {K : zK} {X : zX} (hX : ∀ (n pc : Nat) (ls : zLS) (st : List zV) (M : zM), zrun (tb_X3_tornOf kd K) [(5, [5])] n X pc ls st M → X pc ls st M) {t : Nat} {c : Int32} {y : Int32} {M : zM}  (h : X 5 [some (zR t 0), some (zI (c)), some (zI (y)), some (zI ((0 : Int32))), some (zI ((0 : Int32))), none] [] M) : X 0 [some (zR t 0), some (zI (c)), some (zI (y)), none, none, none] [] M := hX 6 0 _ [] M (show X 5 [some (zR t 0), some (zI (c)), some (zI (y)), some (zI ((0 : Int32))), some (zI ((0 : Int32))), none] [] M from h)
set_option maxRecDepth 100000 in
theorem vc_X3_tornOf_5 {kd : Nat → Nat} {K : zK} {X : zX} (hX : ∀ (n pc : Nat) (ls : zLS) (st : List zV) (M : zM), zrun (tb_X3_tornOf kd K) [(5, [5])] n X pc ls st M → X pc ls st M) {t : Nat} {c : Int32} {y : Int32} {w : Int32} {i : Int32} {M : zM} (hk0 : kd t = 3) (h : (((4 : Int32) ≤ i) → K (some (zI (w))) M) ∧ ((¬ (4 : Int32) ≤ i) → ∃ a1 : Sk, (RpS (M.1 t) a1) ∧ ∀ v1 : Int32, (v1.toInt = if (sk_at a1 c.toInt i.toInt).isSome then 4 * c.toInt + i.toInt else -1) → ((v1 = (-1 : Int32)) → X 5 [some (zR t 0), some (zI (c)), some (zI (y)), some (zI (w)), some (zI (i + 1)), none] [] M) ∧ ((¬ v1 = (-1 : Int32)) → ∃ a2 : Sk, (RpS (M.1 t) a2) ∧ (0 ≤ y.toInt ∧ y.toInt < 1000000) ∧ ∀ v2 : Int32, (v2 = zp (sk_bd a2 c.toInt i.toInt y.toInt = true)) → ((v2 = 0) → X 5 [some (zR t 0), some (zI (c)), some (zI (y)), some (zI (w)), some (zI (i + 1)), none] [] M) ∧ ((¬ v2 = 0) → (zin (kd t) 3 0 v1) ∧ ∃ a3 : Sk, (RpS (M.1 t) a3) ∧ (0 ≤ y.toInt ∧ y.toInt < 1000000) ∧ ∀ v3 : Int32, (v3.toInt = sk_side a3 (M.1 t 3 (v1).toNatClampNeg).toInt y.toInt) → (zin (kd t) 4 0 v1) ∧ ((¬ v3 = (M.1 t 4 (v1).toNatClampNeg)) → X 5 [some (zR t 0), some (zI (c)), some (zI (y)), some (zI (w)), some (zI (i + 1)), none] [] M) ∧ ((v3 = (M.1 t 4 (v1).toNatClampNeg)) → X 5 [some (zR t 0), some (zI (c)), some (zI (y)), some (zI (w ||| ((1 : Int32) <<< (i &&& 31)))), some (zI (i + 1)), none] [] M))))) : X 5 [some (zR t 0), some (zI (c)), some (zI (y)), some (zI (w)), some (zI (i)), none] [] M := hX 39 5 _ [] M (show (((4 : Int32) ≤ i) → K (some (zI (w))) M) ∧ ((¬ (4 : Int32) ≤ i) → (kd t = 3) ∧ ∃ a1 : Sk, (RpS (M.1 t) a1) ∧ ∀ v1 : Int32, (v1.toInt = if (sk_at a1 c.toInt i.toInt).isSome then 4 * c.toInt + i.toInt else -1) → ((v1 = (-1 : Int32)) → X 5 [some (zR t 0), some (zI (c)), some (zI (y)), some (zI (w)), some (zI (i + 1)), none] [] M) ∧ ((¬ v1 = (-1 : Int32)) → (kd t = 3) ∧ ∃ a2 : Sk, (RpS (M.1 t) a2) ∧ (0 ≤ y.toInt ∧ y.toInt < 1000000) ∧ ∀ v2 : Int32, (v2 = zp (sk_bd a2 c.toInt i.toInt y.toInt = true)) → ((v2 = 0) → X 5 [some (zR t 0), some (zI (c)), some (zI (y)), some (zI (w)), some (zI (i + 1)), none] [] M) ∧ ((¬ v2 = 0) → (kd t = 3) ∧ (zin (kd t) 3 0 v1) ∧ (kd t = 3) ∧ ∃ a3 : Sk, (RpS (M.1 t) a3) ∧ (0 ≤ y.toInt ∧ y.toInt < 1000000) ∧ ∀ v3 : Int32, (v3.toInt = sk_side a3 (M.1 t 3 (v1).toNatClampNeg).toInt y.toInt) → (kd t = 3) ∧ (zin (kd t) 4 0 v1) ∧ ((¬ v3 = (M.1 t 4 (v1).toNatClampNeg)) → X 5 [some (zR t 0), some (zI (c)), some (zI (y)), some (zI (w)), some (zI (i + 1)), none] [] M) ∧ ((v3 = (M.1 t 4 (v1).toNatClampNeg)) → X 5 [some (zR t 0), some (zI (c)), some (zI (y)), some (zI (w ||| ((1 : Int32) <<< (i &&& 31)))), some (zI (i + 1)), none] [] M)))) from ⟨fun q => have h := h.1 q; h, fun q => have h := h.2 q; ⟨hk0, h.elim (fun a1 h => ⟨a1, ⟨h.1, have h := h.2; fun v1 => have h := h v1; fun q => have h := h q; ⟨fun q => have h := h.1 q; h, fun q => have h := h.2 q; ⟨hk0, h.elim (fun a2 h => ⟨a2, ⟨h.1, have h := h.2; ⟨h.1, have h := h.2; fun v2 => have h := h v2; fun q => have h := h q; ⟨fun q => have h := h.1 q; h, fun q => have h := h.2 q; ⟨hk0, ⟨h.1, have h := h.2; ⟨hk0, h.elim (fun a3 h => ⟨a3, ⟨h.1, have h := h.2; ⟨h.1, have h := h.2; fun v3 => have h := h v3; fun q => have h := h q; ⟨hk0, ⟨h.1, have h := h.2; ⟨fun q => have h := h.1 q; h, fun q => have h := h.2 q; h⟩⟩⟩⟩⟩⟩)⟩⟩⟩⟩⟩⟩⟩)⟩⟩⟩⟩)⟩⟩)
def sp_X3_hangingOn : zSpec := fun kd as M K => match as with
  | [.inr (.inr (.inl (t, 0))), .inl c, .inl i, .inl y] => (kd t = 3) ∧ ∃ a : Sk, (RpS (M.1 t) a) ∧ (0 ≤ y.toInt ∧ y.toInt < 1000000) ∧ ∀ v : Int32, (v.toInt = sk_hang a c.toInt i.toInt y.toInt) → K (some (.inl v)) M
  | _ => False
theorem rv_X3_hangingOn : zrv sp_X3_hangingOn 3 3 := by
  intro kd as M K h
  unfold sp_X3_hangingOn at h
  split at h
  · exact ⟨_, _, rfl, h.1⟩
  · exact h.elim
theorem dd_X3_hangingOn_0 : decode cX3_hangingOn 0 = .ok (.aload_n 0, 1) := by decide +kernel
theorem dd_X3_hangingOn_1 : decode cX3_hangingOn 1 = .ok (.iload_n 1, 1) := by decide +kernel
theorem dd_X3_hangingOn_2 : decode cX3_hangingOn 2 = .ok (.iload_n 2, 1) := by decide +kernel
theorem dd_X3_hangingOn_3 : decode cX3_hangingOn 3 = .ok (.invokevirtual 40, 3) := by decide +kernel
theorem dd_X3_hangingOn_6 : decode cX3_hangingOn 6 = .ok (.istore 4, 2) := by decide +kernel
theorem dd_X3_hangingOn_8 : decode cX3_hangingOn 8 = .ok (.iload 4, 2) := by decide +kernel
theorem dd_X3_hangingOn_10 : decode cX3_hangingOn 10 = .ok (.iconst (-1), 1) := by decide +kernel
theorem dd_X3_hangingOn_11 : decode cX3_hangingOn 11 = .ok (.if_icmp .eq 13, 3) := by decide +kernel
theorem dd_X3_hangingOn_14 : decode cX3_hangingOn 14 = .ok (.aload_n 0, 1) := by decide +kernel
theorem dd_X3_hangingOn_15 : decode cX3_hangingOn 15 = .ok (.iload_n 1, 1) := by decide +kernel
theorem dd_X3_hangingOn_16 : decode cX3_hangingOn 16 = .ok (.iload_n 2, 1) := by decide +kernel
theorem dd_X3_hangingOn_17 : decode cX3_hangingOn 17 = .ok (.iload_n 3, 1) := by decide +kernel
theorem dd_X3_hangingOn_18 : decode cX3_hangingOn 18 = .ok (.invokevirtual 88, 3) := by decide +kernel
theorem dd_X3_hangingOn_21 : decode cX3_hangingOn 21 = .ok (.ifCond .ne 5, 3) := by decide +kernel
theorem dd_X3_hangingOn_24 : decode cX3_hangingOn 24 = .ok (.iconst 0, 1) := by decide +kernel
theorem dd_X3_hangingOn_25 : decode cX3_hangingOn 25 = .ok (.ireturn, 1) := by decide +kernel
theorem dd_X3_hangingOn_26 : decode cX3_hangingOn 26 = .ok (.aload_n 0, 1) := by decide +kernel
theorem dd_X3_hangingOn_27 : decode cX3_hangingOn 27 = .ok (.aload_n 0, 1) := by decide +kernel
theorem dd_X3_hangingOn_28 : decode cX3_hangingOn 28 = .ok (.getfield 18, 3) := by decide +kernel
theorem dd_X3_hangingOn_31 : decode cX3_hangingOn 31 = .ok (.iload 4, 2) := by decide +kernel
theorem dd_X3_hangingOn_33 : decode cX3_hangingOn 33 = .ok (.iaload, 1) := by decide +kernel
theorem dd_X3_hangingOn_34 : decode cX3_hangingOn 34 = .ok (.aload_n 0, 1) := by decide +kernel
theorem dd_X3_hangingOn_35 : decode cX3_hangingOn 35 = .ok (.getfield 21, 3) := by decide +kernel
theorem dd_X3_hangingOn_38 : decode cX3_hangingOn 38 = .ok (.iload 4, 2) := by decide +kernel
theorem dd_X3_hangingOn_40 : decode cX3_hangingOn 40 = .ok (.iaload, 1) := by decide +kernel
theorem dd_X3_hangingOn_41 : decode cX3_hangingOn 41 = .ok (.iload_n 3, 1) := by decide +kernel
theorem dd_X3_hangingOn_42 : decode cX3_hangingOn 42 = .ok (.invokevirtual 101, 3) := by decide +kernel
theorem dd_X3_hangingOn_45 : decode cX3_hangingOn 45 = .ok (.iconst 1, 1) := by decide +kernel
theorem dd_X3_hangingOn_46 : decode cX3_hangingOn 46 = .ok (.if_icmp .ne 15, 3) := by decide +kernel
theorem dd_X3_hangingOn_49 : decode cX3_hangingOn 49 = .ok (.iconst 1, 1) := by decide +kernel
theorem dd_X3_hangingOn_50 : decode cX3_hangingOn 50 = .ok (.aload_n 0, 1) := by decide +kernel
theorem dd_X3_hangingOn_51 : decode cX3_hangingOn 51 = .ok (.getfield 18, 3) := by decide +kernel
theorem dd_X3_hangingOn_54 : decode cX3_hangingOn 54 = .ok (.iload 4, 2) := by decide +kernel
theorem dd_X3_hangingOn_56 : decode cX3_hangingOn 56 = .ok (.iaload, 1) := by decide +kernel
theorem dd_X3_hangingOn_57 : decode cX3_hangingOn 57 = .ok (.ishl, 1) := by decide +kernel
theorem dd_X3_hangingOn_58 : decode cX3_hangingOn 58 = .ok (.goto 4, 3) := by decide +kernel
theorem dd_X3_hangingOn_61 : decode cX3_hangingOn 61 = .ok (.iconst 0, 1) := by decide +kernel
theorem dd_X3_hangingOn_62 : decode cX3_hangingOn 62 = .ok (.ireturn, 1) := by decide +kernel
def tb_X3_hangingOn (kd : Nat → Nat) (K : zK) : zTab := [(0, zt_aload 0 1), (1, zt_iload 1 2), (2, zt_iload 2 3), (3, zt_call kd sp_X3_slot 3 6), (6, zt_istore 4 8), (8, zt_iload 4 10), (10, zt_const (zI (-1)) 11), (11, zt_icmp (fun x y => x = y) (fun x y => ¬ x = y) 24 14), (14, zt_aload 0 15), (15, zt_iload 1 16), (16, zt_iload 2 17), (17, zt_iload 3 18), (18, zt_call kd sp_X3_bound 4 21), (21, zt_if (fun x => ¬ x = 0) (fun x => x = 0) 26 24), (24, zt_const (zI 0) 25), (25, zt_iret K), (26, zt_aload 0 27), (27, zt_aload 0 28), (28, zt_getR kd 3 0 3 31), (31, zt_iload 4 33), (33, zt_ald kd 0 34), (34, zt_aload 0 35), (35, zt_getR kd 3 0 4 38), (38, zt_iload 4 40), (40, zt_ald kd 0 41), (41, zt_iload 3 42), (42, zt_call kd sp_X3_tally 4 45), (45, zt_const (zI 1) 46), (46, zt_icmp (fun x y => ¬ x = y) (fun x y => x = y) 61 49), (49, zt_const (zI 1) 50), (50, zt_aload 0 51), (51, zt_getR kd 3 0 3 54), (54, zt_iload 4 56), (56, zt_ald kd 0 57), (57, zt_bin (fun x y => x <<< (y &&& 31)) 58), (58, zt_goto 62), (61, zt_const (zI 0) 62), (62, zt_iret K)]
set_option maxRecDepth 20000 in
theorem tk_X3_hangingOn (d : Nat) (h_X3_slot : zMS 1 yX3_slot cX3_slot 3 (some .int) sp_X3_slot) (h_X3_bound : zMS 4 yX3_bound cX3_bound 5 (some .boolean) sp_X3_bound) (h_X3_tally : zMS 4 yX3_tally cX3_tally 8 (some .int) sp_X3_tally) : zTrue RX3 cX3_hangingOn 5 (some .int) (d + 5) (fun kd K => tb_X3_hangingOn kd K) := by
  intro p l e R s m args below meth c D cy A ad bl Qm K C0 hr hlocks hQ
  obtain ⟨hx, hb, hml, hown, hts, hK, hD, hA0, hN, hE, ⟨hR1, hR2⟩, hc1, hc2⟩ := id C0
  unfold tb_X3_hangingOn
  refine List.forall_mem_cons.mpr ⟨ok_aload_n hx hb rfl dd_X3_hangingOn_0, ?_⟩
  refine List.forall_mem_cons.mpr ⟨ok_iload_n hx hb rfl dd_X3_hangingOn_1, ?_⟩
  refine List.forall_mem_cons.mpr ⟨ok_iload_n hx hb rfl dd_X3_hangingOn_2, ?_⟩
  refine List.forall_mem_cons.mpr ⟨ok_callV (n := 2) zc_X3 rv_X3_slot C0 (h_X3_slot (d + 4) (by omega)) (by decide) wd_341 wd_338 wd_340 wd_6 wd_102 ⟨rfl, by decide +kernel, by decide +kernel, by decide +kernel⟩ dd_X3_hangingOn_3, ?_⟩
  refine List.forall_mem_cons.mpr ⟨ok_istore hx hb dd_X3_hangingOn_6, ?_⟩
  refine List.forall_mem_cons.mpr ⟨ok_iload hx hb dd_X3_hangingOn_8, ?_⟩
  refine List.forall_mem_cons.mpr ⟨ok_iconst hx hb dd_X3_hangingOn_10 (by decide), ?_⟩
  refine List.forall_mem_cons.mpr ⟨ok_icmp_eq hx hb dd_X3_hangingOn_11 (by decide), ?_⟩
  refine List.forall_mem_cons.mpr ⟨ok_aload_n hx hb rfl dd_X3_hangingOn_14, ?_⟩
  refine List.forall_mem_cons.mpr ⟨ok_iload_n hx hb rfl dd_X3_hangingOn_15, ?_⟩
  refine List.forall_mem_cons.mpr ⟨ok_iload_n hx hb rfl dd_X3_hangingOn_16, ?_⟩
  refine List.forall_mem_cons.mpr ⟨ok_iload_n hx hb rfl dd_X3_hangingOn_17, ?_⟩
  refine List.forall_mem_cons.mpr ⟨ok_callV (n := 3) zc_X3 rv_X3_bound C0 (h_X3_bound (d + 4) (by omega)) (by decide) wd_554 wd_591 wd_553 wd_25 wd_102 ⟨rfl, by decide +kernel, by decide +kernel, by decide +kernel⟩ dd_X3_hangingOn_18, ?_⟩
  refine List.forall_mem_cons.mpr ⟨ok_if_ne hx hb dd_X3_hangingOn_21 (by decide), ?_⟩
  refine List.forall_mem_cons.mpr ⟨ok_iconst hx hb dd_X3_hangingOn_24 (by decide), ?_⟩
  refine List.forall_mem_cons.mpr ⟨ok_iret hx hb hr hlocks hQ dd_X3_hangingOn_25, ?_⟩
  refine List.forall_mem_cons.mpr ⟨ok_aload_n hx hb rfl dd_X3_hangingOn_26, ?_⟩
  refine List.forall_mem_cons.mpr ⟨ok_aload_n hx hb rfl dd_X3_hangingOn_27, ?_⟩
  refine List.forall_mem_cons.mpr ⟨ok_getR (j := 2) hx hb hts zi_X3 hown hK zc_X3 (by decide) rfl (fun t fl h => by cases h; rfl) (hts _ wd_139) dd_X3_hangingOn_28, ?_⟩
  refine List.forall_mem_cons.mpr ⟨ok_iload hx hb dd_X3_hangingOn_31, ?_⟩
  refine List.forall_mem_cons.mpr ⟨ok_ald (ty := 0) rfl hx hb hK (Or.inl ⟨rfl, rfl, dd_X3_hangingOn_33⟩), ?_⟩
  refine List.forall_mem_cons.mpr ⟨ok_aload_n hx hb rfl dd_X3_hangingOn_34, ?_⟩
  refine List.forall_mem_cons.mpr ⟨ok_getR (j := 3) hx hb hts zi_X3 hown hK zc_X3 (by decide) rfl (fun t fl h => by cases h; rfl) (hts _ wd_140) dd_X3_hangingOn_35, ?_⟩
  refine List.forall_mem_cons.mpr ⟨ok_iload hx hb dd_X3_hangingOn_38, ?_⟩
  refine List.forall_mem_cons.mpr ⟨ok_ald (ty := 0) rfl hx hb hK (Or.inl ⟨rfl, rfl, dd_X3_hangingOn_40⟩), ?_⟩
  refine List.forall_mem_cons.mpr ⟨ok_iload_n hx hb rfl dd_X3_hangingOn_41, ?_⟩
  refine List.forall_mem_cons.mpr ⟨ok_callV (n := 3) zc_X3 rv_X3_tally C0 (h_X3_tally (d + 4) (by omega)) (by decide) wd_615 wd_612 wd_614 wd_34 wd_102 ⟨rfl, by decide +kernel, by decide +kernel, by decide +kernel⟩ dd_X3_hangingOn_42, ?_⟩
  refine List.forall_mem_cons.mpr ⟨ok_iconst hx hb dd_X3_hangingOn_45 (by decide), ?_⟩
  refine List.forall_mem_cons.mpr ⟨ok_icmp_ne hx hb dd_X3_hangingOn_46 (by decide), ?_⟩
  refine List.forall_mem_cons.mpr ⟨ok_iconst hx hb dd_X3_hangingOn_49 (by decide), ?_⟩
  refine List.forall_mem_cons.mpr ⟨ok_aload_n hx hb rfl dd_X3_hangingOn_50, ?_⟩
  refine List.forall_mem_cons.mpr ⟨ok_getR (j := 2) hx hb hts zi_X3 hown hK zc_X3 (by decide) rfl (fun t fl h => by cases h; rfl) (hts _ wd_139) dd_X3_hangingOn_51, ?_⟩
  refine List.forall_mem_cons.mpr ⟨ok_iload hx hb dd_X3_hangingOn_54, ?_⟩
  refine List.forall_mem_cons.mpr ⟨ok_ald (ty := 0) rfl hx hb hK (Or.inl ⟨rfl, rfl, dd_X3_hangingOn_56⟩), ?_⟩
  refine List.forall_mem_cons.mpr ⟨ok_ishl hx hb dd_X3_hangingOn_57, ?_⟩
  refine List.forall_mem_cons.mpr ⟨ok_goto hx hb dd_X3_hangingOn_58 (by decide), ?_⟩
  refine List.forall_mem_cons.mpr ⟨ok_iconst hx hb dd_X3_hangingOn_61 (by decide), ?_⟩
  refine List.forall_mem_cons.mpr ⟨ok_iret hx hb hr hlocks hQ dd_X3_hangingOn_62, ?_⟩
  exact fun _ h => absurd h List.not_mem_nil
set_option maxRecDepth 100000 in
theorem vc_X3_hangingOn_0 {kd : Nat → Nat} {K : zK} {X : zX} (hX : ∀ (n pc : Nat) (ls : zLS) (st : List zV) (M : zM), zrun (tb_X3_hangingOn kd K) [] n X pc ls st M → X pc ls st M) {t : Nat} {c : Int32} {i : Int32} {y : Int32} {M : zM} (hk0 : kd t = 3) (h : ∃ a1 : Sk, (RpS (M.1 t) a1) ∧ ∀ v1 : Int32, (v1.toInt = if (sk_at a1 c.toInt i.toInt).isSome then 4 * c.toInt + i.toInt else -1) → ((v1 = (-1 : Int32)) → K (some (zI ((0 : Int32)))) M) ∧ ((¬ v1 = (-1 : Int32)) → ∃ a2 : Sk, (RpS (M.1 t) a2) ∧ (0 ≤ y.toInt ∧ y.toInt < 1000000) ∧ ∀ v2 : Int32, (v2 = zp (sk_bd a2 c.toInt i.toInt y.toInt = true)) → ((¬ v2 = 0) → (zin (kd t) 3 0 v1) ∧ (zin (kd t) 4 0 v1) ∧ ∃ a3 : Sk, (RpS (M.1 t) a3) ∧ (0 ≤ y.toInt ∧ y.toInt < 1000000) ∧ ∀ v3 : Int32, (v3.toInt = sk_N a3 (M.1 t 3 (v1).toNatClampNeg).toInt (M.1 t 4 (v1).toNatClampNeg).toInt y.toInt) → ((¬ v3 = (1 : Int32)) → K (some (zI ((0 : Int32)))) M) ∧ ((v3 = (1 : Int32)) → (zin (kd t) 3 0 v1) ∧ K (some (zI ((1 : Int32) <<< ((M.1 t 3 (v1).toNatClampNeg) &&& 31)))) M)) ∧ ((v2 = 0) → K (some (zI ((0 : Int32)))) M))) : X 0 [some (zR t 0), some (zI (c)), some (zI (i)), some (zI (y)), none] [] M := hX 36 0 _ [] M (show (kd t = 3) ∧ ∃ a1 : Sk, (RpS (M.1 t) a1) ∧ ∀ v1 : Int32, (v1.toInt = if (sk_at a1 c.toInt i.toInt).isSome then 4 * c.toInt + i.toInt else -1) → ((v1 = (-1 : Int32)) → K (some (zI ((0 : Int32)))) M) ∧ ((¬ v1 = (-1 : Int32)) → (kd t = 3) ∧ ∃ a2 : Sk, (RpS (M.1 t) a2) ∧ (0 ≤ y.toInt ∧ y.toInt < 1000000) ∧ ∀ v2 : Int32, (v2 = zp (sk_bd a2 c.toInt i.toInt y.toInt = true)) → ((¬ v2 = 0) → (kd t = 3) ∧ (zin (kd t) 3 0 v1) ∧ (kd t = 3) ∧ (zin (kd t) 4 0 v1) ∧ (kd t = 3) ∧ ∃ a3 : Sk, (RpS (M.1 t) a3) ∧ (0 ≤ y.toInt ∧ y.toInt < 1000000) ∧ ∀ v3 : Int32, (v3.toInt = sk_N a3 (M.1 t 3 (v1).toNatClampNeg).toInt (M.1 t 4 (v1).toNatClampNeg).toInt y.toInt) → ((¬ v3 = (1 : Int32)) → K (some (zI ((0 : Int32)))) M) ∧ ((v3 = (1 : Int32)) → (kd t = 3) ∧ (zin (kd t) 3 0 v1) ∧ K (some (zI ((1 : Int32) <<< ((M.1 t 3 (v1).toNatClampNeg) &&& 31)))) M)) ∧ ((v2 = 0) → K (some (zI ((0 : Int32)))) M)) from ⟨hk0, h.elim (fun a1 h => ⟨a1, ⟨h.1, have h := h.2; fun v1 => have h := h v1; fun q => have h := h q; ⟨fun q => have h := h.1 q; h, fun q => have h := h.2 q; ⟨hk0, h.elim (fun a2 h => ⟨a2, ⟨h.1, have h := h.2; ⟨h.1, have h := h.2; fun v2 => have h := h v2; fun q => have h := h q; ⟨fun q => have h := h.1 q; ⟨hk0, ⟨h.1, have h := h.2; ⟨hk0, ⟨h.1, have h := h.2; ⟨hk0, h.elim (fun a3 h => ⟨a3, ⟨h.1, have h := h.2; ⟨h.1, have h := h.2; fun v3 => have h := h v3; fun q => have h := h q; ⟨fun q => have h := h.1 q; h, fun q => have h := h.2 q; ⟨hk0, ⟨h.1, have h := h.2; h⟩⟩⟩⟩⟩⟩)⟩⟩⟩⟩⟩, fun q => have h := h.2 q; h⟩⟩⟩⟩)⟩⟩⟩⟩)⟩)
