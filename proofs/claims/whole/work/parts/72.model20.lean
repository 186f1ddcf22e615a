
/-! two parties by turns, with rows for the turns -/
def bet (b : Int32) (t : Nat) (v : Int32) : Bool := decide (b = -1) || (if t % 2 = 0 then decide (b < v) else decide (v < b))
def jdg (M : zM) (t : Nat) (v : Int32) : zM := zmw (zmw (zmw M 9 8 (upd (M.1 9 8) t (if bet (M.1 9 8 t) t v then v else M.1 9 8 t))) 9 0 (upd (M.1 9 0) 14 (if bet (M.1 9 8 t) t v && decide (t = 0) then M.1 9 7 0 else M.1 9 0 14))) 9 7 (upd (M.1 9 7) t (M.1 9 7 t + 1))
def ltn (M : zM) (t : Nat) (M' : zM) : Prop := ∃ f6, (∀ j, j < 127 → f6 (127 * t + j) = M.1 9 5 j) ∧ (∀ j, (j < 127 * t ∨ 127 * t + 127 ≤ j) → f6 j = M.1 9 6 j) ∧ M' = zmw (zmw (zmw M 9 6 f6) 9 7 (upd (M.1 9 7) t 0)) 9 8 (upd (M.1 9 8) t (-1))
def sp_X8_layTurn : zSpec := fun kd as M K => match as with
  | [.inr (.inr (.inl (9, 0))), .inl t] => (kd 9 = 8) ∧ (0 ≤ t.toInt ∧ t.toInt < 4) ∧ ∀ M' : zM, (ltn M t.toInt.toNat M') → K none M'
  | _ => False
theorem rv_X8_layTurn : zrv sp_X8_layTurn 8 1 := by
  intro kd as M K h
  unfold sp_X8_layTurn at h
  split at h
  · exact ⟨_, _, rfl, h.1⟩
  · exact h.elim
theorem dd_X8_layTurn_0 : decode cX8_layTurn 0 = .ok (.aload_n 0, 1) := by decide +kernel
theorem dd_X8_layTurn_1 : decode cX8_layTurn 1 = .ok (.iload_n 1, 1) := by decide +kernel
theorem dd_X8_layTurn_2 : decode cX8_layTurn 2 = .ok (.invokevirtual 171, 3) := by decide +kernel
theorem dd_X8_layTurn_5 : decode cX8_layTurn 5 = .ok (.aload_n 0, 1) := by decide +kernel
theorem dd_X8_layTurn_6 : decode cX8_layTurn 6 = .ok (.getfield 33, 3) := by decide +kernel
theorem dd_X8_layTurn_9 : decode cX8_layTurn 9 = .ok (.iload_n 1, 1) := by decide +kernel
theorem dd_X8_layTurn_10 : decode cX8_layTurn 10 = .ok (.iconst 0, 1) := by decide +kernel
theorem dd_X8_layTurn_11 : decode cX8_layTurn 11 = .ok (.iastore, 1) := by decide +kernel
theorem dd_X8_layTurn_12 : decode cX8_layTurn 12 = .ok (.aload_n 0, 1) := by decide +kernel
theorem dd_X8_layTurn_13 : decode cX8_layTurn 13 = .ok (.getfield 36, 3) := by decide +kernel
theorem dd_X8_layTurn_16 : decode cX8_layTurn 16 = .ok (.iload_n 1, 1) := by decide +kernel
theorem dd_X8_layTurn_17 : decode cX8_layTurn 17 = .ok (.iconst (-1), 1) := by decide +kernel
theorem dd_X8_layTurn_18 : decode cX8_layTurn 18 = .ok (.iastore, 1) := by decide +kernel
theorem dd_X8_layTurn_19 : decode cX8_layTurn 19 = .ok (.return_, 1) := by decide +kernel
def tb_X8_layTurn (kd : Nat → Nat) (K : zK) : zTab := [(0, zt_aload 0 1), (1, zt_iload 1 2), (2, zt_call kd sp_X8_laySkin 2 5), (5, zt_aload 0 6), (6, zt_getR kd 8 0 7 9), (9, zt_iload 1 10), (10, zt_const (zI 0) 11), (11, zt_ast kd 0 12), (12, zt_aload 0 13), (13, zt_getR kd 8 0 8 16), (16, zt_iload 1 17), (17, zt_const (zI (-1)) 18), (18, zt_ast kd 0 19), (19, zt_vret K)]
set_option maxRecDepth 20000 in
theorem tk_X8_layTurn (d : Nat) (h_X8_laySkin : zMS 1 yX8_laySkin cX8_laySkin 3 none sp_X8_laySkin) : zTrue RX8 cX8_layTurn 2 none (d + 2) (fun kd K => tb_X8_layTurn kd K) := by
  intro p l e R s m args below meth c D cy A ad bl Qm K C0 hr hlocks hQ
  obtain ⟨hx, hb, hml, hown, hts, hK, hD, hA0, hN, hE, ⟨hR1, hR2⟩, hc1, hc2⟩ := id C0
  unfold tb_X8_layTurn
  refine List.forall_mem_cons.mpr ⟨ok_aload_n hx hb rfl dd_X8_layTurn_0, ?_⟩
  refine List.forall_mem_cons.mpr ⟨ok_iload_n hx hb rfl dd_X8_layTurn_1, ?_⟩
  refine List.forall_mem_cons.mpr ⟨ok_callV (n := 1) zc_X8 rv_X8_laySkin C0 (h_X8_laySkin (d + 1) (by omega)) (by decide) wd_1062 wd_1059 wd_1061 wd_76 wd_107 ⟨rfl, by decide +kernel, by decide +kernel, by decide +kernel⟩ dd_X8_layTurn_2, ?_⟩
  refine List.forall_mem_cons.mpr ⟨ok_aload_n hx hb rfl dd_X8_layTurn_5, ?_⟩
  refine List.forall_mem_cons.mpr ⟨ok_getR (j := 12) hx hb hts zi_X8 hown hK zc_X8 (by decide) rfl (fun t fl h => by cases h; rfl) (hts _ wd_852) dd_X8_layTurn_6, ?_⟩
  refine List.forall_mem_cons.mpr ⟨ok_iload_n hx hb rfl dd_X8_layTurn_9, ?_⟩
  refine List.forall_mem_cons.mpr ⟨ok_iconst hx hb dd_X8_layTurn_10 (by decide), ?_⟩
  refine List.forall_mem_cons.mpr ⟨ok_ast (ty := 0) rfl hx hb hK hD (Or.inl ⟨rfl, rfl, dd_X8_layTurn_11⟩), ?_⟩
  refine List.forall_mem_cons.mpr ⟨ok_aload_n hx hb rfl dd_X8_layTurn_12, ?_⟩
  refine List.forall_mem_cons.mpr ⟨ok_getR (j := 13) hx hb hts zi_X8 hown hK zc_X8 (by decide) rfl (fun t fl h => by cases h; rfl) (hts _ wd_853) dd_X8_layTurn_13, ?_⟩
  refine List.forall_mem_cons.mpr ⟨ok_iload_n hx hb rfl dd_X8_layTurn_16, ?_⟩
  refine List.forall_mem_cons.mpr ⟨ok_iconst hx hb dd_X8_layTurn_17 (by decide), ?_⟩
  refine List.forall_mem_cons.mpr ⟨ok_ast (ty := 0) rfl hx hb hK hD (Or.inl ⟨rfl, rfl, dd_X8_layTurn_18⟩), ?_⟩
  refine List.forall_mem_cons.mpr ⟨ok_vret hx hb hr hlocks hQ dd_X8_layTurn_19, ?_⟩
  exact fun _ h => absurd h List.not_mem_nil
set_option maxRecDepth 100000 in
theorem vc_X8_layTurn_0 {kd : Nat → Nat} {K : zK} {X : zX} (hX : ∀ (n pc : Nat) (ls : zLS) (st : List zV) (M : zM), zrun (tb_X8_layTurn kd K) [] n X pc ls st M → X pc ls st M) {t : Int32} {M : zM} (hk0 : kd 9 = 8) (h : (0 ≤ t.toInt ∧ t.toInt < 4) ∧ ∀ f1 : Nat → Int32, (∀ j9, j9 < 127 → f1 (127 * t.toInt.toNat + j9) = M.1 9 5 j9) → (∀ j9, (j9 < 127 * t.toInt.toNat ∨ 127 * t.toInt.toNat + 127 ≤ j9) → f1 j9 = M.1 9 6 j9) → ∀ M1 : zM, (M1 = zmw M 9 6 f1) → (zin (kd 9) 7 0 t) ∧ ∀ M2 : zM, (M2 = zmw M1 9 7 (upd (M1.1 9 7) (t).toNatClampNeg (0 : Int32))) → (zin (kd 9) 8 0 t) ∧ ∀ M3 : zM, (M3 = zmw M2 9 8 (upd (M2.1 9 8) (t).toNatClampNeg (-1 : Int32))) → K none M3) : X 0 [some (zR 9 0), some (zI (t))] [] M := hX 15 0 _ [] M (show (kd 9 = 8) ∧ (0 ≤ t.toInt ∧ t.toInt < 4) ∧ ∀ f1 : Nat → Int32, (∀ j9, j9 < 127 → f1 (127 * t.toInt.toNat + j9) = M.1 9 5 j9) → (∀ j9, (j9 < 127 * t.toInt.toNat ∨ 127 * t.toInt.toNat + 127 ≤ j9) → f1 j9 = M.1 9 6 j9) → ∀ M1 : zM, (M1 = zmw M 9 6 f1) → (kd 9 = 8) ∧ (zin (kd 9) 7 0 t) ∧ ∀ M2 : zM, (M2 = zmw M1 9 7 (upd (M1.1 9 7) (t).toNatClampNeg (0 : Int32))) → (kd 9 = 8) ∧ (zin (kd 9) 8 0 t) ∧ ∀ M3 : zM, (M3 = zmw M2 9 8 (upd (M2.1 9 8) (t).toNatClampNeg (-1 : Int32))) → K none M3 from ⟨hk0, ⟨h.1, have h := h.2; fun f1 => have h := h f1; fun q => have h := h q; fun q => have h := h q; fun M1 => have h := h M1; fun q => have h := h q; ⟨hk0, ⟨h.1, have h := h.2; fun M2 => have h := h M2; fun q => have h := h q; ⟨hk0, ⟨h.1, have h := h.2; fun M3 => have h := h M3; fun q => have h := h q; h⟩⟩⟩⟩⟩⟩)
def sp_X8_judge : zSpec := fun kd as M K => match as with
  | [.inr (.inr (.inl (9, 0))), .inl t, .inl v] => (kd 9 = 8) ∧ (0 ≤ t.toInt ∧ t.toInt < 4) ∧ ∀ M' : zM, (M' = jdg M t.toInt.toNat v) → K none M'
  | _ => False
theorem rv_X8_judge : zrv sp_X8_judge 8 2 := by
  intro kd as M K h
  unfold sp_X8_judge at h
  split at h
  · exact ⟨_, _, rfl, h.1⟩
  · exact h.elim
theorem dd_X8_judge_0 : decode cX8_judge 0 = .ok (.aload_n 0, 1) := by decide +kernel
theorem dd_X8_judge_1 : decode cX8_judge 1 = .ok (.getfield 36, 3) := by decide +kernel
theorem dd_X8_judge_4 : decode cX8_judge 4 = .ok (.iload_n 1, 1) := by decide +kernel
theorem dd_X8_judge_5 : decode cX8_judge 5 = .ok (.iaload, 1) := by decide +kernel
theorem dd_X8_judge_6 : decode cX8_judge 6 = .ok (.iconst (-1), 1) := by decide +kernel
theorem dd_X8_judge_7 : decode cX8_judge 7 = .ok (.if_icmp .eq 32, 3) := by decide +kernel
theorem dd_X8_judge_10 : decode cX8_judge 10 = .ok (.iload_n 1, 1) := by decide +kernel
theorem dd_X8_judge_11 : decode cX8_judge 11 = .ok (.iconst 2, 1) := by decide +kernel
theorem dd_X8_judge_12 : decode cX8_judge 12 = .ok (.irem, 1) := by decide +kernel
theorem dd_X8_judge_13 : decode cX8_judge 13 = .ok (.ifCond .ne 16, 3) := by decide +kernel
theorem dd_X8_judge_16 : decode cX8_judge 16 = .ok (.iload_n 2, 1) := by decide +kernel
theorem dd_X8_judge_17 : decode cX8_judge 17 = .ok (.aload_n 0, 1) := by decide +kernel
theorem dd_X8_judge_18 : decode cX8_judge 18 = .ok (.getfield 36, 3) := by decide +kernel
theorem dd_X8_judge_21 : decode cX8_judge 21 = .ok (.iload_n 1, 1) := by decide +kernel
theorem dd_X8_judge_22 : decode cX8_judge 22 = .ok (.iaload, 1) := by decide +kernel
theorem dd_X8_judge_23 : decode cX8_judge 23 = .ok (.if_icmp .le 20, 3) := by decide +kernel
theorem dd_X8_judge_26 : decode cX8_judge 26 = .ok (.goto 13, 3) := by decide +kernel
theorem dd_X8_judge_29 : decode cX8_judge 29 = .ok (.iload_n 2, 1) := by decide +kernel
theorem dd_X8_judge_30 : decode cX8_judge 30 = .ok (.aload_n 0, 1) := by decide +kernel
theorem dd_X8_judge_31 : decode cX8_judge 31 = .ok (.getfield 36, 3) := by decide +kernel
theorem dd_X8_judge_34 : decode cX8_judge 34 = .ok (.iload_n 1, 1) := by decide +kernel
theorem dd_X8_judge_35 : decode cX8_judge 35 = .ok (.iaload, 1) := by decide +kernel
theorem dd_X8_judge_36 : decode cX8_judge 36 = .ok (.if_icmp .ge 7, 3) := by decide +kernel
theorem dd_X8_judge_39 : decode cX8_judge 39 = .ok (.iconst 1, 1) := by decide +kernel
theorem dd_X8_judge_40 : decode cX8_judge 40 = .ok (.goto 4, 3) := by decide +kernel
theorem dd_X8_judge_43 : decode cX8_judge 43 = .ok (.iconst 0, 1) := by decide +kernel
theorem dd_X8_judge_44 : decode cX8_judge 44 = .ok (.istore_n 3, 1) := by decide +kernel
theorem dd_X8_judge_45 : decode cX8_judge 45 = .ok (.aload_n 0, 1) := by decide +kernel
theorem dd_X8_judge_46 : decode cX8_judge 46 = .ok (.getfield 36, 3) := by decide +kernel
theorem dd_X8_judge_49 : decode cX8_judge 49 = .ok (.iload_n 1, 1) := by decide +kernel
theorem dd_X8_judge_50 : decode cX8_judge 50 = .ok (.iload_n 3, 1) := by decide +kernel
theorem dd_X8_judge_51 : decode cX8_judge 51 = .ok (.ifCond .eq 7, 3) := by decide +kernel
theorem dd_X8_judge_54 : decode cX8_judge 54 = .ok (.iload_n 2, 1) := by decide +kernel
theorem dd_X8_judge_55 : decode cX8_judge 55 = .ok (.goto 9, 3) := by decide +kernel
theorem dd_X8_judge_58 : decode cX8_judge 58 = .ok (.aload_n 0, 1) := by decide +kernel
theorem dd_X8_judge_59 : decode cX8_judge 59 = .ok (.getfield 36, 3) := by decide +kernel
theorem dd_X8_judge_62 : decode cX8_judge 62 = .ok (.iload_n 1, 1) := by decide +kernel
theorem dd_X8_judge_63 : decode cX8_judge 63 = .ok (.iaload, 1) := by decide +kernel
theorem dd_X8_judge_64 : decode cX8_judge 64 = .ok (.iastore, 1) := by decide +kernel
theorem dd_X8_judge_65 : decode cX8_judge 65 = .ok (.aload_n 0, 1) := by decide +kernel
theorem dd_X8_judge_66 : decode cX8_judge 66 = .ok (.iload_n 3, 1) := by decide +kernel
theorem dd_X8_judge_67 : decode cX8_judge 67 = .ok (.ifCond .eq 16, 3) := by decide +kernel
theorem dd_X8_judge_70 : decode cX8_judge 70 = .ok (.iload_n 1, 1) := by decide +kernel
theorem dd_X8_judge_71 : decode cX8_judge 71 = .ok (.ifCond .ne 12, 3) := by decide +kernel
theorem dd_X8_judge_74 : decode cX8_judge 74 = .ok (.aload_n 0, 1) := by decide +kernel
theorem dd_X8_judge_75 : decode cX8_judge 75 = .ok (.getfield 33, 3) := by decide +kernel
theorem dd_X8_judge_78 : decode cX8_judge 78 = .ok (.iconst 0, 1) := by decide +kernel
theorem dd_X8_judge_79 : decode cX8_judge 79 = .ok (.iaload, 1) := by decide +kernel
theorem dd_X8_judge_80 : decode cX8_judge 80 = .ok (.goto 7, 3) := by decide +kernel
theorem dd_X8_judge_83 : decode cX8_judge 83 = .ok (.aload_n 0, 1) := by decide +kernel
theorem dd_X8_judge_84 : decode cX8_judge 84 = .ok (.getfield 185, 3) := by decide +kernel
theorem dd_X8_judge_87 : decode cX8_judge 87 = .ok (.putfield 185, 3) := by decide +kernel
theorem dd_X8_judge_90 : decode cX8_judge 90 = .ok (.aload_n 0, 1) := by decide +kernel
theorem dd_X8_judge_91 : decode cX8_judge 91 = .ok (.getfield 33, 3) := by decide +kernel
theorem dd_X8_judge_94 : decode cX8_judge 94 = .ok (.iload_n 1, 1) := by decide +kernel
theorem dd_X8_judge_95 : decode cX8_judge 95 = .ok (.dup2, 1) := by decide +kernel
theorem dd_X8_judge_96 : decode cX8_judge 96 = .ok (.iaload, 1) := by decide +kernel
theorem dd_X8_judge_97 : decode cX8_judge 97 = .ok (.iconst 1, 1) := by decide +kernel
theorem dd_X8_judge_98 : decode cX8_judge 98 = .ok (.iadd, 1) := by decide +kernel
theorem dd_X8_judge_99 : decode cX8_judge 99 = .ok (.iastore, 1) := by decide +kernel
theorem dd_X8_judge_100 : decode cX8_judge 100 = .ok (.return_, 1) := by decide +kernel
def tb_X8_judge (kd : Nat → Nat) (K : zK) : zTab := [(0, zt_aload 0 1), (1, zt_getR kd 8 0 8 4), (4, zt_iload 1 5), (5, zt_ald kd 0 6), (6, zt_const (zI (-1)) 7), (7, zt_icmp (fun x y => x = y) (fun x y => ¬ x = y) 39 10), (10, zt_iload 1 11), (11, zt_const (zI 2) 12), (12, zt_div (fun x y => x - x / y * y) 13), (13, zt_if (fun x => ¬ x = 0) (fun x => x = 0) 29 16), (16, zt_iload 2 17), (17, zt_aload 0 18), (18, zt_getR kd 8 0 8 21), (21, zt_iload 1 22), (22, zt_ald kd 0 23), (23, zt_icmp (fun x y => x ≤ y) (fun x y => ¬ x ≤ y) 43 26), (26, zt_goto 39), (29, zt_iload 2 30), (30, zt_aload 0 31), (31, zt_getR kd 8 0 8 34), (34, zt_iload 1 35), (35, zt_ald kd 0 36), (36, zt_icmp (fun x y => y ≤ x) (fun x y => ¬ y ≤ x) 43 39), (39, zt_const (zI 1) 40), (40, zt_goto 44), (43, zt_const (zI 0) 44), (44, zt_istore 3 45), (45, zt_aload 0 46), (46, zt_getR kd 8 0 8 49), (49, zt_iload 1 50), (50, zt_iload 3 51), (51, zt_if (fun x => x = 0) (fun x => ¬ x = 0) 58 54), (54, zt_iload 2 55), (55, zt_goto 64), (58, zt_aload 0 59), (59, zt_getR kd 8 0 8 62), (62, zt_iload 1 63), (63, zt_ald kd 0 64), (64, zt_ast kd 0 65), (65, zt_aload 0 66), (66, zt_iload 3 67), (67, zt_if (fun x => x = 0) (fun x => ¬ x = 0) 83 70), (70, zt_iload 1 71), (71, zt_if (fun x => ¬ x = 0) (fun x => x = 0) 83 74), (74, zt_aload 0 75), (75, zt_getR kd 8 0 7 78), (78, zt_const (zI 0) 79), (79, zt_ald kd 0 80), (80, zt_goto 87), (83, zt_aload 0 84), (84, zt_getI kd 8 14 87), (87, zt_putI kd 8 14 90), (90, zt_aload 0 91), (91, zt_getR kd 8 0 7 94), (94, zt_iload 1 95), (95, zt_dup2 96), (96, zt_ald kd 0 97), (97, zt_const (zI 1) 98), (98, zt_bin (fun x y => x + y) 99), (99, zt_ast kd 0 100), (100, zt_vret K)]
set_option maxRecDepth 20000 in
theorem tk_X8_judge (d : Nat)  : zTrue RX8 cX8_judge 4 none (d + 1) (fun kd K => tb_X8_judge kd K) := by
  intro p l e R s m args below meth c D cy A ad bl Qm K C0 hr hlocks hQ
  obtain ⟨hx, hb, hml, hown, hts, hK, hD, hA0, hN, hE, ⟨hR1, hR2⟩, hc1, hc2⟩ := id C0
  unfold tb_X8_judge
  refine List.forall_mem_cons.mpr ⟨ok_aload_n hx hb rfl dd_X8_judge_0, ?_⟩
  refine List.forall_mem_cons.mpr ⟨ok_getR (j := 13) hx hb hts zi_X8 hown hK zc_X8 (by decide) rfl (fun t fl h => by cases h; rfl) (hts _ wd_853) dd_X8_judge_1, ?_⟩
  refine List.forall_mem_cons.mpr ⟨ok_iload_n hx hb rfl dd_X8_judge_4, ?_⟩
  refine List.forall_mem_cons.mpr ⟨ok_ald (ty := 0) rfl hx hb hK (Or.inl ⟨rfl, rfl, dd_X8_judge_5⟩), ?_⟩
  refine List.forall_mem_cons.mpr ⟨ok_iconst hx hb dd_X8_judge_6 (by decide), ?_⟩
  refine List.forall_mem_cons.mpr ⟨ok_icmp_eq hx hb dd_X8_judge_7 (by decide), ?_⟩
  refine List.forall_mem_cons.mpr ⟨ok_iload_n hx hb rfl dd_X8_judge_10, ?_⟩
  refine List.forall_mem_cons.mpr ⟨ok_iconst hx hb dd_X8_judge_11 (by decide), ?_⟩
  refine List.forall_mem_cons.mpr ⟨ok_irem hx hb dd_X8_judge_12, ?_⟩
  refine List.forall_mem_cons.mpr ⟨ok_if_ne hx hb dd_X8_judge_13 (by decide), ?_⟩
  refine List.forall_mem_cons.mpr ⟨ok_iload_n hx hb rfl dd_X8_judge_16, ?_⟩
  refine List.forall_mem_cons.mpr ⟨ok_aload_n hx hb rfl dd_X8_judge_17, ?_⟩
  refine List.forall_mem_cons.mpr ⟨ok_getR (j := 13) hx hb hts zi_X8 hown hK zc_X8 (by decide) rfl (fun t fl h => by cases h; rfl) (hts _ wd_853) dd_X8_judge_18, ?_⟩
  refine List.forall_mem_cons.mpr ⟨ok_iload_n hx hb rfl dd_X8_judge_21, ?_⟩
  refine List.forall_mem_cons.mpr ⟨ok_ald (ty := 0) rfl hx hb hK (Or.inl ⟨rfl, rfl, dd_X8_judge_22⟩), ?_⟩
  refine List.forall_mem_cons.mpr ⟨ok_icmp_le hx hb dd_X8_judge_23 (by decide), ?_⟩
  refine List.forall_mem_cons.mpr ⟨ok_goto hx hb dd_X8_judge_26 (by decide), ?_⟩
  refine List.forall_mem_cons.mpr ⟨ok_iload_n hx hb rfl dd_X8_judge_29, ?_⟩
  refine List.forall_mem_cons.mpr ⟨ok_aload_n hx hb rfl dd_X8_judge_30, ?_⟩
  refine List.forall_mem_cons.mpr ⟨ok_getR (j := 13) hx hb hts zi_X8 hown hK zc_X8 (by decide) rfl (fun t fl h => by cases h; rfl) (hts _ wd_853) dd_X8_judge_31, ?_⟩
  refine List.forall_mem_cons.mpr ⟨ok_iload_n hx hb rfl dd_X8_judge_34, ?_⟩
  refine List.forall_mem_cons.mpr ⟨ok_ald (ty := 0) rfl hx hb hK (Or.inl ⟨rfl, rfl, dd_X8_judge_35⟩), ?_⟩
  refine List.forall_mem_cons.mpr ⟨ok_icmp_ge hx hb dd_X8_judge_36 (by decide), ?_⟩
  refine List.forall_mem_cons.mpr ⟨ok_iconst hx hb dd_X8_judge_39 (by decide), ?_⟩
  refine List.forall_mem_cons.mpr ⟨ok_goto hx hb dd_X8_judge_40 (by decide), ?_⟩
  refine List.forall_mem_cons.mpr ⟨ok_iconst hx hb dd_X8_judge_43 (by decide), ?_⟩
  refine List.forall_mem_cons.mpr ⟨ok_istore_n hx hb rfl dd_X8_judge_44, ?_⟩
  refine List.forall_mem_cons.mpr ⟨ok_aload_n hx hb rfl dd_X8_judge_45, ?_⟩
  refine List.forall_mem_cons.mpr ⟨ok_getR (j := 13) hx hb hts zi_X8 hown hK zc_X8 (by decide) rfl (fun t fl h => by cases h; rfl) (hts _ wd_853) dd_X8_judge_46, ?_⟩
  refine List.forall_mem_cons.mpr ⟨ok_iload_n hx hb rfl dd_X8_judge_49, ?_⟩
  refine List.forall_mem_cons.mpr ⟨ok_iload_n hx hb rfl dd_X8_judge_50, ?_⟩
  refine List.forall_mem_cons.mpr ⟨ok_if_eq hx hb dd_X8_judge_51 (by decide), ?_⟩
  refine List.forall_mem_cons.mpr ⟨ok_iload_n hx hb rfl dd_X8_judge_54, ?_⟩
  refine List.forall_mem_cons.mpr ⟨ok_goto hx hb dd_X8_judge_55 (by decide), ?_⟩
  refine List.forall_mem_cons.mpr ⟨ok_aload_n hx hb rfl dd_X8_judge_58, ?_⟩
  refine List.forall_mem_cons.mpr ⟨ok_getR (j := 13) hx hb hts zi_X8 hown hK zc_X8 (by decide) rfl (fun t fl h => by cases h; rfl) (hts _ wd_853) dd_X8_judge_59, ?_⟩
  refine List.forall_mem_cons.mpr ⟨ok_iload_n hx hb rfl dd_X8_judge_62, ?_⟩
  refine List.forall_mem_cons.mpr ⟨ok_ald (ty := 0) rfl hx hb hK (Or.inl ⟨rfl, rfl, dd_X8_judge_63⟩), ?_⟩
  refine List.forall_mem_cons.mpr ⟨ok_ast (ty := 0) rfl hx hb hK hD (Or.inl ⟨rfl, rfl, dd_X8_judge_64⟩), ?_⟩
  refine List.forall_mem_cons.mpr ⟨ok_aload_n hx hb rfl dd_X8_judge_65, ?_⟩
  refine List.forall_mem_cons.mpr ⟨ok_iload_n hx hb rfl dd_X8_judge_66, ?_⟩
  refine List.forall_mem_cons.mpr ⟨ok_if_eq hx hb dd_X8_judge_67 (by decide), ?_⟩
  refine List.forall_mem_cons.mpr ⟨ok_iload_n hx hb rfl dd_X8_judge_70, ?_⟩
  refine List.forall_mem_cons.mpr ⟨ok_if_ne hx hb dd_X8_judge_71 (by decide), ?_⟩
  refine List.forall_mem_cons.mpr ⟨ok_aload_n hx hb rfl dd_X8_judge_74, ?_⟩
  refine List.forall_mem_cons.mpr ⟨ok_getR (j := 12) hx hb hts zi_X8 hown hK zc_X8 (by decide) rfl (fun t fl h => by cases h; rfl) (hts _ wd_852) dd_X8_judge_75, ?_⟩
  refine List.forall_mem_cons.mpr ⟨ok_iconst hx hb dd_X8_judge_78 (by decide), ?_⟩
  refine List.forall_mem_cons.mpr ⟨ok_ald (ty := 0) rfl hx hb hK (Or.inl ⟨rfl, rfl, dd_X8_judge_79⟩), ?_⟩
  refine List.forall_mem_cons.mpr ⟨ok_goto hx hb dd_X8_judge_80 (by decide), ?_⟩
  refine List.forall_mem_cons.mpr ⟨ok_aload_n hx hb rfl dd_X8_judge_83, ?_⟩
  refine List.forall_mem_cons.mpr ⟨ok_getI (j := 14) hx hb hts zi_X8 hown hK zc_X8 (by decide) rfl (fun t fl h => by cases h; rfl) (hts _ wd_854) dd_X8_judge_84, ?_⟩
  refine List.forall_mem_cons.mpr ⟨ok_putI (j := 14) hx hb hts zi_X8 tyX8 tyX8_ok nmX8 hown hK hD zc_X8 (by decide) rfl rfl (by decide +kernel) (fun t fl h => by cases h; rfl) (hts _ wd_854) dd_X8_judge_87, ?_⟩
  refine List.forall_mem_cons.mpr ⟨ok_aload_n hx hb rfl dd_X8_judge_90, ?_⟩
  refine List.forall_mem_cons.mpr ⟨ok_getR (j := 12) hx hb hts zi_X8 hown hK zc_X8 (by decide) rfl (fun t fl h => by cases h; rfl) (hts _ wd_852) dd_X8_judge_91, ?_⟩
  refine List.forall_mem_cons.mpr ⟨ok_iload_n hx hb rfl dd_X8_judge_94, ?_⟩
  refine List.forall_mem_cons.mpr ⟨ok_dup2 hx hb dd_X8_judge_95, ?_⟩
  refine List.forall_mem_cons.mpr ⟨ok_ald (ty := 0) rfl hx hb hK (Or.inl ⟨rfl, rfl, dd_X8_judge_96⟩), ?_⟩
  refine List.forall_mem_cons.mpr ⟨ok_iconst hx hb dd_X8_judge_97 (by decide), ?_⟩
  refine List.forall_mem_cons.mpr ⟨ok_iadd hx hb dd_X8_judge_98, ?_⟩
  refine List.forall_mem_cons.mpr ⟨ok_ast (ty := 0) rfl hx hb hK hD (Or.inl ⟨rfl, rfl, dd_X8_judge_99⟩), ?_⟩
  refine List.forall_mem_cons.mpr ⟨ok_vret hx hb hr hlocks hQ dd_X8_judge_100, ?_⟩
  exact fun _ h => absurd h List.not_mem_nil
set_option maxRecDepth 100000 in
theorem vc_X8_judge_0 {kd : Nat → Nat} {K : zK} {X : zX} (hX : ∀ (n pc : Nat) (ls : zLS) (st : List zV) (M : zM), zrun (tb_X8_judge kd K) [(45, [])] n X pc ls st M → X pc ls st M) {t : Int32} {v : Int32} {M : zM} (hk0 : kd 9 = 8) (h : (zin (kd 9) 8 0 t) ∧ (((M.1 9 8 (t).toNatClampNeg) = (-1 : Int32)) → X 45 [some (zR 9 0), some (zI (t)), some (zI (v)), some (zI ((1 : Int32)))] [] M) ∧ ((¬ (M.1 9 8 (t).toNatClampNeg) = (-1 : Int32)) → ((¬ (t - t / (2 : Int32) * (2 : Int32)) = 0) → (zin (kd 9) 8 0 t) ∧ (((M.1 9 8 (t).toNatClampNeg) ≤ v) → X 45 [some (zR 9 0), some (zI (t)), some (zI (v)), some (zI ((0 : Int32)))] [] M) ∧ ((¬ (M.1 9 8 (t).toNatClampNeg) ≤ v) → X 45 [some (zR 9 0), some (zI (t)), some (zI (v)), some (zI ((1 : Int32)))] [] M)) ∧ (((t - t / (2 : Int32) * (2 : Int32)) = 0) → (zin (kd 9) 8 0 t) ∧ ((v ≤ (M.1 9 8 (t).toNatClampNeg)) → X 45 [some (zR 9 0), some (zI (t)), some (zI (v)), some (zI ((0 : Int32)))] [] M) ∧ ((¬ v ≤ (M.1 9 8 (t).toNatClampNeg)) → X 45 [some (zR 9 0), some (zI (t)), some (zI (v)), some (zI ((1 : Int32)))] [] M)))) : X 0 [some (zR 9 0), some (zI (t)), some (zI (v)), none] [] M := hX 22 0 _ [] M (show (kd 9 = 8) ∧ (zin (kd 9) 8 0 t) ∧ (((M.1 9 8 (t).toNatClampNeg) = (-1 : Int32)) → X 45 [some (zR 9 0), some (zI (t)), some (zI (v)), some (zI ((1 : Int32)))] [] M) ∧ ((¬ (M.1 9 8 (t).toNatClampNeg) = (-1 : Int32)) → (¬ (2 : Int32) = 0) ∧ ((¬ (t - t / (2 : Int32) * (2 : Int32)) = 0) → (kd 9 = 8) ∧ (zin (kd 9) 8 0 t) ∧ (((M.1 9 8 (t).toNatClampNeg) ≤ v) → X 45 [some (zR 9 0), some (zI (t)), some (zI (v)), some (zI ((0 : Int32)))] [] M) ∧ ((¬ (M.1 9 8 (t).toNatClampNeg) ≤ v) → X 45 [some (zR 9 0), some (zI (t)), some (zI (v)), some (zI ((1 : Int32)))] [] M)) ∧ (((t - t / (2 : Int32) * (2 : Int32)) = 0) → (kd 9 = 8) ∧ (zin (kd 9) 8 0 t) ∧ ((v ≤ (M.1 9 8 (t).toNatClampNeg)) → X 45 [some (zR 9 0), some (zI (t)), some (zI (v)), some (zI ((0 : Int32)))] [] M) ∧ ((¬ v ≤ (M.1 9 8 (t).toNatClampNeg)) → X 45 [some (zR 9 0), some (zI (t)), some (zI (v)), some (zI ((1 : Int32)))] [] M))) from ⟨hk0, ⟨h.1, have h := h.2; ⟨fun q => have h := h.1 q; h, fun q => have h := h.2 q; ⟨(by decide), ⟨fun q => have h := h.1 q; ⟨hk0, ⟨h.1, have h := h.2; ⟨fun q => have h := h.1 q; h, fun q => have h := h.2 q; h⟩⟩⟩, fun q => have h := h.2 q; ⟨hk0, ⟨h.1, have h := h.2; ⟨fun q => have h := h.1 q; h, fun q => have h := h.2 q; h⟩⟩⟩⟩⟩⟩⟩⟩)
set_option maxRecDepth 100000 in
theorem vc_X8_judge_45 {kd : Nat → Nat} {K : zK} {X : zX} (hX : ∀ (n pc : Nat) (ls : zLS) (st : List zV) (M : zM), zrun (tb_X8_judge kd K) [(45, [])] n X pc ls st M → X pc ls st M) {t : Int32} {v : Int32} {b : Int32} {M : zM} (hk0 : kd 9 = 8) (h : ((b = 0) → (zin (kd 9) 8 0 t) ∧ (zin (kd 9) 8 0 t) ∧ ∀ M1 : zM, (M1 = zmw M 9 8 (upd (M.1 9 8) (t).toNatClampNeg (M.1 9 8 (t).toNatClampNeg))) → ((b = 0) → ∀ M2 : zM, (M2 = zmw M1 9 0 (upd (M1.1 9 0) 14 (M1.1 9 0 14))) → (zin (kd 9) 7 0 t) ∧ (zin (kd 9) 7 0 t) ∧ ∀ M3 : zM, (M3 = zmw M2 9 7 (upd (M2.1 9 7) (t).toNatClampNeg ((M2.1 9 7 (t).toNatClampNeg) + (1 : Int32)))) → K none M3) ∧ ((¬ b = 0) → ((¬ t = 0) → ∀ M4 : zM, (M4 = zmw M1 9 0 (upd (M1.1 9 0) 14 (M1.1 9 0 14))) → (zin (kd 9) 7 0 t) ∧ (zin (kd 9) 7 0 t) ∧ ∀ M5 : zM, (M5 = zmw M4 9 7 (upd (M4.1 9 7) (t).toNatClampNeg ((M4.1 9 7 (t).toNatClampNeg) + (1 : Int32)))) → K none M5) ∧ ((t = 0) → (zin (kd 9) 7 0 (0 : Int32)) ∧ ∀ M6 : zM, (M6 = zmw M1 9 0 (upd (M1.1 9 0) 14 (M1.1 9 7 ((0 : Int32)).toNatClampNeg))) → (zin (kd 9) 7 0 t) ∧ (zin (kd 9) 7 0 t) ∧ ∀ M7 : zM, (M7 = zmw M6 9 7 (upd (M6.1 9 7) (t).toNatClampNeg ((M6.1 9 7 (t).toNatClampNeg) + (1 : Int32)))) → K none M7))) ∧ ((¬ b = 0) → (zin (kd 9) 8 0 t) ∧ ∀ M8 : zM, (M8 = zmw M 9 8 (upd (M.1 9 8) (t).toNatClampNeg v)) → ((b = 0) → ∀ M9 : zM, (M9 = zmw M8 9 0 (upd (M8.1 9 0) 14 (M8.1 9 0 14))) → (zin (kd 9) 7 0 t) ∧ (zin (kd 9) 7 0 t) ∧ ∀ M10 : zM, (M10 = zmw M9 9 7 (upd (M9.1 9 7) (t).toNatClampNeg ((M9.1 9 7 (t).toNatClampNeg) + (1 : Int32)))) → K none M10) ∧ ((¬ b = 0) → ((¬ t = 0) → ∀ M11 : zM, (M11 = zmw M8 9 0 (upd (M8.1 9 0) 14 (M8.1 9 0 14))) → (zin (kd 9) 7 0 t) ∧ (zin (kd 9) 7 0 t) ∧ ∀ M12 : zM, (M12 = zmw M11 9 7 (upd (M11.1 9 7) (t).toNatClampNeg ((M11.1 9 7 (t).toNatClampNeg) + (1 : Int32)))) → K none M12) ∧ ((t = 0) → (zin (kd 9) 7 0 (0 : Int32)) ∧ ∀ M13 : zM, (M13 = zmw M8 9 0 (upd (M8.1 9 0) 14 (M8.1 9 7 ((0 : Int32)).toNatClampNeg))) → (zin (kd 9) 7 0 t) ∧ (zin (kd 9) 7 0 t) ∧ ∀ M14 : zM, (M14 = zmw M13 9 7 (upd (M13.1 9 7) (t).toNatClampNeg ((M13.1 9 7 (t).toNatClampNeg) + (1 : Int32)))) → K none M14)))) : X 45 [some (zR 9 0), some (zI (t)), some (zI (v)), some (zI (b))] [] M := hX 31 45 _ [] M (show (kd 9 = 8) ∧ ((b = 0) → (kd 9 = 8) ∧ (zin (kd 9) 8 0 t) ∧ (zin (kd 9) 8 0 t) ∧ ∀ M1 : zM, (M1 = zmw M 9 8 (upd (M.1 9 8) (t).toNatClampNeg (M.1 9 8 (t).toNatClampNeg))) → ((b = 0) → (kd 9 = 8) ∧ (kd 9 = 8) ∧ ∀ M2 : zM, (M2 = zmw M1 9 0 (upd (M1.1 9 0) 14 (M1.1 9 0 14))) → (kd 9 = 8) ∧ (zin (kd 9) 7 0 t) ∧ (zin (kd 9) 7 0 t) ∧ ∀ M3 : zM, (M3 = zmw M2 9 7 (upd (M2.1 9 7) (t).toNatClampNeg ((M2.1 9 7 (t).toNatClampNeg) + (1 : Int32)))) → K none M3) ∧ ((¬ b = 0) → ((¬ t = 0) → (kd 9 = 8) ∧ (kd 9 = 8) ∧ ∀ M4 : zM, (M4 = zmw M1 9 0 (upd (M1.1 9 0) 14 (M1.1 9 0 14))) → (kd 9 = 8) ∧ (zin (kd 9) 7 0 t) ∧ (zin (kd 9) 7 0 t) ∧ ∀ M5 : zM, (M5 = zmw M4 9 7 (upd (M4.1 9 7) (t).toNatClampNeg ((M4.1 9 7 (t).toNatClampNeg) + (1 : Int32)))) → K none M5) ∧ ((t = 0) → (kd 9 = 8) ∧ (zin (kd 9) 7 0 (0 : Int32)) ∧ (kd 9 = 8) ∧ ∀ M6 : zM, (M6 = zmw M1 9 0 (upd (M1.1 9 0) 14 (M1.1 9 7 ((0 : Int32)).toNatClampNeg))) → (kd 9 = 8) ∧ (zin (kd 9) 7 0 t) ∧ (zin (kd 9) 7 0 t) ∧ ∀ M7 : zM, (M7 = zmw M6 9 7 (upd (M6.1 9 7) (t).toNatClampNeg ((M6.1 9 7 (t).toNatClampNeg) + (1 : Int32)))) → K none M7))) ∧ ((¬ b = 0) → (zin (kd 9) 8 0 t) ∧ ∀ M8 : zM, (M8 = zmw M 9 8 (upd (M.1 9 8) (t).toNatClampNeg v)) → ((b = 0) → (kd 9 = 8) ∧ (kd 9 = 8) ∧ ∀ M9 : zM, (M9 = zmw M8 9 0 (upd (M8.1 9 0) 14 (M8.1 9 0 14))) → (kd 9 = 8) ∧ (zin (kd 9) 7 0 t) ∧ (zin (kd 9) 7 0 t) ∧ ∀ M10 : zM, (M10 = zmw M9 9 7 (upd (M9.1 9 7) (t).toNatClampNeg ((M9.1 9 7 (t).toNatClampNeg) + (1 : Int32)))) → K none M10) ∧ ((¬ b = 0) → ((¬ t = 0) → (kd 9 = 8) ∧ (kd 9 = 8) ∧ ∀ M11 : zM, (M11 = zmw M8 9 0 (upd (M8.1 9 0) 14 (M8.1 9 0 14))) → (kd 9 = 8) ∧ (zin (kd 9) 7 0 t) ∧ (zin (kd 9) 7 0 t) ∧ ∀ M12 : zM, (M12 = zmw M11 9 7 (upd (M11.1 9 7) (t).toNatClampNeg ((M11.1 9 7 (t).toNatClampNeg) + (1 : Int32)))) → K none M12) ∧ ((t = 0) → (kd 9 = 8) ∧ (zin (kd 9) 7 0 (0 : Int32)) ∧ (kd 9 = 8) ∧ ∀ M13 : zM, (M13 = zmw M8 9 0 (upd (M8.1 9 0) 14 (M8.1 9 7 ((0 : Int32)).toNatClampNeg))) → (kd 9 = 8) ∧ (zin (kd 9) 7 0 t) ∧ (zin (kd 9) 7 0 t) ∧ ∀ M14 : zM, (M14 = zmw M13 9 7 (upd (M13.1 9 7) (t).toNatClampNeg ((M13.1 9 7 (t).toNatClampNeg) + (1 : Int32)))) → K none M14))) from ⟨hk0, ⟨fun q => have h := h.1 q; ⟨hk0, ⟨h.1, have h := h.2; ⟨h.1, have h := h.2; fun M1 => have h := h M1; fun q => have h := h q; ⟨fun q => have h := h.1 q; ⟨hk0, ⟨hk0, fun M2 => have h := h M2; fun q => have h := h q; ⟨hk0, ⟨h.1, have h := h.2; ⟨h.1, have h := h.2; fun M3 => have h := h M3; fun q => have h := h q; h⟩⟩⟩⟩⟩, fun q => have h := h.2 q; ⟨fun q => have h := h.1 q; ⟨hk0, ⟨hk0, fun M4 => have h := h M4; fun q => have h := h q; ⟨hk0, ⟨h.1, have h := h.2; ⟨h.1, have h := h.2; fun M5 => have h := h M5; fun q => have h := h q; h⟩⟩⟩⟩⟩, fun q => have h := h.2 q; ⟨hk0, ⟨h.1, have h := h.2; ⟨hk0, fun M6 => have h := h M6; fun q => have h := h q; ⟨hk0, ⟨h.1, have h := h.2; ⟨h.1, have h := h.2; fun M7 => have h := h M7; fun q => have h := h q; h⟩⟩⟩⟩⟩⟩⟩⟩⟩⟩⟩, fun q => have h := h.2 q; ⟨h.1, have h := h.2; fun M8 => have h := h M8; fun q => have h := h q; ⟨fun q => have h := h.1 q; ⟨hk0, ⟨hk0, fun M9 => have h := h M9; fun q => have h := h q; ⟨hk0, ⟨h.1, have h := h.2; ⟨h.1, have h := h.2; fun M10 => have h := h M10; fun q => have h := h q; h⟩⟩⟩⟩⟩, fun q => have h := h.2 q; ⟨fun q => have h := h.1 q; ⟨hk0, ⟨hk0, fun M11 => have h := h M11; fun q => have h := h q; ⟨hk0, ⟨h.1, have h := h.2; ⟨h.1, have h := h.2; fun M12 => have h := h M12; fun q => have h := h q; h⟩⟩⟩⟩⟩, fun q => have h := h.2 q; ⟨hk0, ⟨h.1, have h := h.2; ⟨hk0, fun M13 => have h := h M13; fun q => have h := h q; ⟨hk0, ⟨h.1, have h := h.2; ⟨h.1, have h := h.2; fun M14 => have h := h M14; fun q => have h := h q; h⟩⟩⟩⟩⟩⟩⟩⟩⟩⟩⟩)
def sp_X8_layParties : zSpec := fun kd as M K => match as with
  | [.inr (.inr (.inl (9, 0))), .inl g, .inl y, .inl n] => (kd 9 = 8) ∧ ∃ a : Sk, (RpF (M.1 9 1) a) ∧ (isT g.toInt ∧ inn n.toInt 1 3 ∧ 0 ≤ y.toInt ∧ y.toInt < 1000000) ∧ ∀ v : Int32, (v.toInt = wv g.toInt y.toInt n.toInt.toNat 1 a) → ∀ M' : zM, (scr M M') → ((M'.1 9 0 14).toInt = wc g.toInt y.toInt (n.toInt.toNat - 1) 1 a) → K (some (.inl v)) M'
  | _ => False
theorem rv_X8_layParties : zrv sp_X8_layParties 8 3 := by
  intro kd as M K h
  unfold sp_X8_layParties at h
  split at h
  · exact ⟨_, _, rfl, h.1⟩
  · exact h.elim
theorem dd_X8_layParties_0 : decode cX8_layParties 0 = .ok (.iconst 0, 1) := by decide +kernel
theorem dd_X8_layParties_1 : decode cX8_layParties 1 = .ok (.istore 4, 2) := by decide +kernel
theorem dd_X8_layParties_3 : decode cX8_layParties 3 = .ok (.aload_n 0, 1) := by decide +kernel
theorem dd_X8_layParties_4 : decode cX8_layParties 4 = .ok (.invokevirtual 145, 3) := by decide +kernel
theorem dd_X8_layParties_7 : decode cX8_layParties 7 = .ok (.aload_n 0, 1) := by decide +kernel
theorem dd_X8_layParties_8 : decode cX8_layParties 8 = .ok (.iconst 0, 1) := by decide +kernel
theorem dd_X8_layParties_9 : decode cX8_layParties 9 = .ok (.invokevirtual 188, 3) := by decide +kernel
theorem dd_X8_layParties_12 : decode cX8_layParties 12 = .ok (.iload 4, 2) := by decide +kernel
theorem dd_X8_layParties_14 : decode cX8_layParties 14 = .ok (.ifCond .gt 14, 3) := by decide +kernel
theorem dd_X8_layParties_17 : decode cX8_layParties 17 = .ok (.aload_n 0, 1) := by decide +kernel
theorem dd_X8_layParties_18 : decode cX8_layParties 18 = .ok (.getfield 33, 3) := by decide +kernel
theorem dd_X8_layParties_21 : decode cX8_layParties 21 = .ok (.iconst 0, 1) := by decide +kernel
theorem dd_X8_layParties_22 : decode cX8_layParties 22 = .ok (.iaload, 1) := by decide +kernel
theorem dd_X8_layParties_23 : decode cX8_layParties 23 = .ok (.bipush 20, 2) := by decide +kernel
theorem dd_X8_layParties_25 : decode cX8_layParties 25 = .ok (.if_icmp .gt 152, 3) := by decide +kernel
theorem dd_X8_layParties_28 : decode cX8_layParties 28 = .ok (.iload 4, 2) := by decide +kernel
theorem dd_X8_layParties_30 : decode cX8_layParties 30 = .ok (.iload_n 3, 1) := by decide +kernel
theorem dd_X8_layParties_31 : decode cX8_layParties 31 = .ok (.if_icmp .eq 15, 3) := by decide +kernel
theorem dd_X8_layParties_34 : decode cX8_layParties 34 = .ok (.aload_n 0, 1) := by decide +kernel
theorem dd_X8_layParties_35 : decode cX8_layParties 35 = .ok (.getfield 33, 3) := by decide +kernel
theorem dd_X8_layParties_38 : decode cX8_layParties 38 = .ok (.iload 4, 2) := by decide +kernel
theorem dd_X8_layParties_40 : decode cX8_layParties 40 = .ok (.iaload, 1) := by decide +kernel
theorem dd_X8_layParties_41 : decode cX8_layParties 41 = .ok (.bipush 20, 2) := by decide +kernel
theorem dd_X8_layParties_43 : decode cX8_layParties 43 = .ok (.if_icmp .le 70, 3) := by decide +kernel
theorem dd_X8_layParties_46 : decode cX8_layParties 46 = .ok (.aload_n 0, 1) := by decide +kernel
theorem dd_X8_layParties_47 : decode cX8_layParties 47 = .ok (.iload_n 1, 1) := by decide +kernel
theorem dd_X8_layParties_48 : decode cX8_layParties 48 = .ok (.iload_n 2, 1) := by decide +kernel
theorem dd_X8_layParties_49 : decode cX8_layParties 49 = .ok (.invokevirtual 138, 3) := by decide +kernel
theorem dd_X8_layParties_52 : decode cX8_layParties 52 = .ok (.istore 5, 2) := by decide +kernel
theorem dd_X8_layParties_54 : decode cX8_layParties 54 = .ok (.iload 4, 2) := by decide +kernel
theorem dd_X8_layParties_56 : decode cX8_layParties 56 = .ok (.iload_n 3, 1) := by decide +kernel
theorem dd_X8_layParties_57 : decode cX8_layParties 57 = .ok (.if_icmp .ge 13, 3) := by decide +kernel
theorem dd_X8_layParties_60 : decode cX8_layParties 60 = .ok (.aload_n 0, 1) := by decide +kernel
theorem dd_X8_layParties_61 : decode cX8_layParties 61 = .ok (.getfield 36, 3) := by decide +kernel
theorem dd_X8_layParties_64 : decode cX8_layParties 64 = .ok (.iload 4, 2) := by decide +kernel
theorem dd_X8_layParties_66 : decode cX8_layParties 66 = .ok (.iaload, 1) := by decide +kernel
theorem dd_X8_layParties_67 : decode cX8_layParties 67 = .ok (.goto 24, 3) := by decide +kernel
theorem dd_X8_layParties_70 : decode cX8_layParties 70 = .ok (.iload 5, 2) := by decide +kernel
theorem dd_X8_layParties_72 : decode cX8_layParties 72 = .ok (.iconst 1, 1) := by decide +kernel
theorem dd_X8_layParties_73 : decode cX8_layParties 73 = .ok (.if_icmp .ne 7, 3) := by decide +kernel
theorem dd_X8_layParties_76 : decode cX8_layParties 76 = .ok (.iconst 2, 1) := by decide +kernel
theorem dd_X8_layParties_77 : decode cX8_layParties 77 = .ok (.goto 14, 3) := by decide +kernel
theorem dd_X8_layParties_80 : decode cX8_layParties 80 = .ok (.iload 5, 2) := by decide +kernel
theorem dd_X8_layParties_82 : decode cX8_layParties 82 = .ok (.iconst 2, 1) := by decide +kernel
theorem dd_X8_layParties_83 : decode cX8_layParties 83 = .ok (.if_icmp .ne 7, 3) := by decide +kernel
theorem dd_X8_layParties_86 : decode cX8_layParties 86 = .ok (.iconst 0, 1) := by decide +kernel
theorem dd_X8_layParties_87 : decode cX8_layParties 87 = .ok (.goto 4, 3) := by decide +kernel
theorem dd_X8_layParties_90 : decode cX8_layParties 90 = .ok (.iconst 1, 1) := by decide +kernel
theorem dd_X8_layParties_91 : decode cX8_layParties 91 = .ok (.istore 6, 2) := by decide +kernel
theorem dd_X8_layParties_93 : decode cX8_layParties 93 = .ok (.iinc 4 (-1), 3) := by decide +kernel
theorem dd_X8_layParties_96 : decode cX8_layParties 96 = .ok (.aload_n 0, 1) := by decide +kernel
theorem dd_X8_layParties_97 : decode cX8_layParties 97 = .ok (.iload 4, 2) := by decide +kernel
theorem dd_X8_layParties_99 : decode cX8_layParties 99 = .ok (.invokevirtual 160, 3) := by decide +kernel
theorem dd_X8_layParties_102 : decode cX8_layParties 102 = .ok (.aload_n 0, 1) := by decide +kernel
theorem dd_X8_layParties_103 : decode cX8_layParties 103 = .ok (.iload 4, 2) := by decide +kernel
theorem dd_X8_layParties_105 : decode cX8_layParties 105 = .ok (.iload 6, 2) := by decide +kernel
theorem dd_X8_layParties_107 : decode cX8_layParties 107 = .ok (.invokevirtual 191, 3) := by decide +kernel
theorem dd_X8_layParties_110 : decode cX8_layParties 110 = .ok (.goto (-98), 3) := by decide +kernel
theorem dd_X8_layParties_113 : decode cX8_layParties 113 = .ok (.aload_n 0, 1) := by decide +kernel
theorem dd_X8_layParties_114 : decode cX8_layParties 114 = .ok (.aload_n 0, 1) := by decide +kernel
theorem dd_X8_layParties_115 : decode cX8_layParties 115 = .ok (.getfield 33, 3) := by decide +kernel
theorem dd_X8_layParties_118 : decode cX8_layParties 118 = .ok (.iload 4, 2) := by decide +kernel
theorem dd_X8_layParties_120 : decode cX8_layParties 120 = .ok (.iaload, 1) := by decide +kernel
theorem dd_X8_layParties_121 : decode cX8_layParties 121 = .ok (.invokevirtual 164, 3) := by decide +kernel
theorem dd_X8_layParties_124 : decode cX8_layParties 124 = .ok (.ifCond .eq 39, 3) := by decide +kernel
theorem dd_X8_layParties_127 : decode cX8_layParties 127 = .ok (.aload_n 0, 1) := by decide +kernel
theorem dd_X8_layParties_128 : decode cX8_layParties 128 = .ok (.aload_n 0, 1) := by decide +kernel
theorem dd_X8_layParties_129 : decode cX8_layParties 129 = .ok (.getfield 33, 3) := by decide +kernel
theorem dd_X8_layParties_132 : decode cX8_layParties 132 = .ok (.iload 4, 2) := by decide +kernel
theorem dd_X8_layParties_134 : decode cX8_layParties 134 = .ok (.iaload, 1) := by decide +kernel
theorem dd_X8_layParties_135 : decode cX8_layParties 135 = .ok (.iload_n 1, 1) := by decide +kernel
theorem dd_X8_layParties_136 : decode cX8_layParties 136 = .ok (.iload 4, 2) := by decide +kernel
theorem dd_X8_layParties_138 : decode cX8_layParties 138 = .ok (.iconst 2, 1) := by decide +kernel
theorem dd_X8_layParties_139 : decode cX8_layParties 139 = .ok (.irem, 1) := by decide +kernel
theorem dd_X8_layParties_140 : decode cX8_layParties 140 = .ok (.ifCond .ne 7, 3) := by decide +kernel
theorem dd_X8_layParties_143 : decode cX8_layParties 143 = .ok (.iconst 1, 1) := by decide +kernel
theorem dd_X8_layParties_144 : decode cX8_layParties 144 = .ok (.goto 4, 3) := by decide +kernel
theorem dd_X8_layParties_147 : decode cX8_layParties 147 = .ok (.iconst 0, 1) := by decide +kernel
theorem dd_X8_layParties_148 : decode cX8_layParties 148 = .ok (.invokevirtual 167, 3) := by decide +kernel
theorem dd_X8_layParties_151 : decode cX8_layParties 151 = .ok (.iinc 4 1, 3) := by decide +kernel
theorem dd_X8_layParties_154 : decode cX8_layParties 154 = .ok (.aload_n 0, 1) := by decide +kernel
theorem dd_X8_layParties_155 : decode cX8_layParties 155 = .ok (.iload 4, 2) := by decide +kernel
theorem dd_X8_layParties_157 : decode cX8_layParties 157 = .ok (.invokevirtual 188, 3) := by decide +kernel
theorem dd_X8_layParties_160 : decode cX8_layParties 160 = .ok (.goto (-148), 3) := by decide +kernel
theorem dd_X8_layParties_163 : decode cX8_layParties 163 = .ok (.aload_n 0, 1) := by decide +kernel
theorem dd_X8_layParties_164 : decode cX8_layParties 164 = .ok (.getfield 33, 3) := by decide +kernel
theorem dd_X8_layParties_167 : decode cX8_layParties 167 = .ok (.iload 4, 2) := by decide +kernel
theorem dd_X8_layParties_169 : decode cX8_layParties 169 = .ok (.dup2, 1) := by decide +kernel
theorem dd_X8_layParties_170 : decode cX8_layParties 170 = .ok (.iaload, 1) := by decide +kernel
theorem dd_X8_layParties_171 : decode cX8_layParties 171 = .ok (.iconst 1, 1) := by decide +kernel
theorem dd_X8_layParties_172 : decode cX8_layParties 172 = .ok (.iadd, 1) := by decide +kernel
theorem dd_X8_layParties_173 : decode cX8_layParties 173 = .ok (.iastore, 1) := by decide +kernel
theorem dd_X8_layParties_174 : decode cX8_layParties 174 = .ok (.goto (-162), 3) := by decide +kernel
theorem dd_X8_layParties_177 : decode cX8_layParties 177 = .ok (.aload_n 0, 1) := by decide +kernel
theorem dd_X8_layParties_178 : decode cX8_layParties 178 = .ok (.getfield 36, 3) := by decide +kernel
theorem dd_X8_layParties_181 : decode cX8_layParties 181 = .ok (.iconst 0, 1) := by decide +kernel
theorem dd_X8_layParties_182 : decode cX8_layParties 182 = .ok (.iaload, 1) := by decide +kernel
theorem dd_X8_layParties_183 : decode cX8_layParties 183 = .ok (.ireturn, 1) := by decide +kernel
def tb_X8_layParties (kd : Nat → Nat) (K : zK) : zTab := [(0, zt_const (zI 0) 1), (1, zt_istore 4 3), (3, zt_aload 0 4), (4, zt_call kd sp_X8_layHand 1 7), (7, zt_aload 0 8), (8, zt_const (zI 0) 9), (9, zt_call kd sp_X8_layTurn 2 12), (12, zt_iload 4 14), (14, zt_if (fun x => 0 < x) (fun x => ¬ 0 < x) 28 17), (17, zt_aload 0 18), (18, zt_getR kd 8 0 7 21), (21, zt_const (zI 0) 22), (22, zt_ald kd 0 23), (23, zt_const (zI 20) 25), (25, zt_icmp (fun x y => y < x) (fun x y => ¬ y < x) 177 28), (28, zt_iload 4 30), (30, zt_iload 3 31), (31, zt_icmp (fun x y => x = y) (fun x y => ¬ x = y) 46 34), (34, zt_aload 0 35), (35, zt_getR kd 8 0 7 38), (38, zt_iload 4 40), (40, zt_ald kd 0 41), (41, zt_const (zI 20) 43), (43, zt_icmp (fun x y => x ≤ y) (fun x y => ¬ x ≤ y) 113 46), (46, zt_aload 0 47), (47, zt_iload 1 48), (48, zt_iload 2 49), (49, zt_call kd sp_X8_ruleOf 3 52), (52, zt_istore 5 54), (54, zt_iload 4 56), (56, zt_iload 3 57), (57, zt_icmp (fun x y => y ≤ x) (fun x y => ¬ y ≤ x) 70 60), (60, zt_aload 0 61), (61, zt_getR kd 8 0 8 64), (64, zt_iload 4 66), (66, zt_ald kd 0 67), (67, zt_goto 91), (70, zt_iload 5 72), (72, zt_const (zI 1) 73), (73, zt_icmp (fun x y => ¬ x = y) (fun x y => x = y) 80 76), (76, zt_const (zI 2) 77), (77, zt_goto 91), (80, zt_iload 5 82), (82, zt_const (zI 2) 83), (83, zt_icmp (fun x y => ¬ x = y) (fun x y => x = y) 90 86), (86, zt_const (zI 0) 87), (87, zt_goto 91), (90, zt_const (zI 1) 91), (91, zt_istore 6 93), (93, zt_iinc 4 (-1) 96), (96, zt_aload 0 97), (97, zt_iload 4 99), (99, zt_call kd sp_X8_backTo 2 102), (102, zt_aload 0 103), (103, zt_iload 4 105), (105, zt_iload 6 107), (107, zt_call kd sp_X8_judge 3 110), (110, zt_goto 12), (113, zt_aload 0 114), (114, zt_aload 0 115), (115, zt_getR kd 8 0 7 118), (118, zt_iload 4 120), (120, zt_ald kd 0 121), (121, zt_call kd sp_X8_mayStroke 2 124), (124, zt_if (fun x => x = 0) (fun x => ¬ x = 0) 163 127), (127, zt_aload 0 128), (128, zt_aload 0 129), (129, zt_getR kd 8 0 7 132), (132, zt_iload 4 134), (134, zt_ald kd 0 135), (135, zt_iload 1 136), (136, zt_iload 4 138), (138, zt_const (zI 2) 139), (139, zt_div (fun x y => x - x / y * y) 140), (140, zt_if (fun x => ¬ x = 0) (fun x => x = 0) 147 143), (143, zt_const (zI 1) 144), (144, zt_goto 148), (147, zt_const (zI 0) 148), (148, zt_call kd sp_X8_goStroke 4 151), (151, zt_iinc 4 1 154), (154, zt_aload 0 155), (155, zt_iload 4 157), (157, zt_call kd sp_X8_layTurn 2 160), (160, zt_goto 12), (163, zt_aload 0 164), (164, zt_getR kd 8 0 7 167), (167, zt_iload 4 169), (169, zt_dup2 170), (170, zt_ald kd 0 171), (171, zt_const (zI 1) 172), (172, zt_bin (fun x y => x + y) 173), (173, zt_ast kd 0 174), (174, zt_goto 12), (177, zt_aload 0 178), (178, zt_getR kd 8 0 8 181), (181, zt_const (zI 0) 182), (182, zt_ald kd 0 183), (183, zt_iret K)]
set_option maxRecDepth 20000 in
theorem tk_X8_layParties (d : Nat) (h_X8_layHand : zMS 1 yX8_layHand cX8_layHand 2 none sp_X8_layHand) (h_X8_layTurn : zMS 2 yX8_layTurn cX8_layTurn 2 none sp_X8_layTurn) (h_X8_ruleOf : zMS 7 yX8_ruleOf cX8_ruleOf 3 (some .int) sp_X8_ruleOf) (h_X8_backTo : zMS 1 yX8_backTo cX8_backTo 3 none sp_X8_backTo) (h_X8_judge : zMS 1 yX8_judge cX8_judge 4 none sp_X8_judge) (h_X8_mayStroke : zMS 4 yX8_mayStroke cX8_mayStroke 2 (some .boolean) sp_X8_mayStroke) (h_X8_goStroke : zMS 3 yX8_goStroke cX8_goStroke 5 none sp_X8_goStroke) : zTrue RX8 cX8_layParties 7 (some .int) (d + 8) (fun kd K => tb_X8_layParties kd K) := by
  intro p l e R s m args below meth c D cy A ad bl Qm K C0 hr hlocks hQ
  obtain ⟨hx, hb, hml, hown, hts, hK, hD, hA0, hN, hE, ⟨hR1, hR2⟩, hc1, hc2⟩ := id C0
  unfold tb_X8_layParties
  refine List.forall_mem_cons.mpr ⟨ok_iconst hx hb dd_X8_layParties_0 (by decide), ?_⟩
  refine List.forall_mem_cons.mpr ⟨ok_istore hx hb dd_X8_layParties_1, ?_⟩
  refine List.forall_mem_cons.mpr ⟨ok_aload_n hx hb rfl dd_X8_layParties_3, ?_⟩
  refine List.forall_mem_cons.mpr ⟨ok_callV (n := 0) zc_X8 rv_X8_layHand C0 (h_X8_layHand (d + 7) (by omega)) (by decide) wd_1000 wd_997 wd_999 wd_67 wd_107 ⟨rfl, by decide +kernel, by decide +kernel, by decide +kernel⟩ dd_X8_layParties_4, ?_⟩
  refine List.forall_mem_cons.mpr ⟨ok_aload_n hx hb rfl dd_X8_layParties_7, ?_⟩
  refine List.forall_mem_cons.mpr ⟨ok_iconst hx hb dd_X8_layParties_8 (by decide), ?_⟩
  refine List.forall_mem_cons.mpr ⟨ok_callV (n := 1) zc_X8 rv_X8_layTurn C0 (h_X8_layTurn (d + 7) (by omega)) (by decide) wd_1094 wd_1091 wd_1093 wd_82 wd_107 ⟨rfl, by decide +kernel, by decide +kernel, by decide +kernel⟩ dd_X8_layParties_9, ?_⟩
  refine List.forall_mem_cons.mpr ⟨ok_iload hx hb dd_X8_layParties_12, ?_⟩
  refine List.forall_mem_cons.mpr ⟨ok_if_gt hx hb dd_X8_layParties_14 (by decide), ?_⟩
  refine List.forall_mem_cons.mpr ⟨ok_aload_n hx hb rfl dd_X8_layParties_17, ?_⟩
  refine List.forall_mem_cons.mpr ⟨ok_getR (j := 12) hx hb hts zi_X8 hown hK zc_X8 (by decide) rfl (fun t fl h => by cases h; rfl) (hts _ wd_852) dd_X8_layParties_18, ?_⟩
  refine List.forall_mem_cons.mpr ⟨ok_iconst hx hb dd_X8_layParties_21 (by decide), ?_⟩
  refine List.forall_mem_cons.mpr ⟨ok_ald (ty := 0) rfl hx hb hK (Or.inl ⟨rfl, rfl, dd_X8_layParties_22⟩), ?_⟩
  refine List.forall_mem_cons.mpr ⟨ok_bipush hx hb dd_X8_layParties_23 (by decide), ?_⟩
  refine List.forall_mem_cons.mpr ⟨ok_icmp_gt hx hb dd_X8_layParties_25 (by decide), ?_⟩
  refine List.forall_mem_cons.mpr ⟨ok_iload hx hb dd_X8_layParties_28, ?_⟩
  refine List.forall_mem_cons.mpr ⟨ok_iload_n hx hb rfl dd_X8_layParties_30, ?_⟩
  refine List.forall_mem_cons.mpr ⟨ok_icmp_eq hx hb dd_X8_layParties_31 (by decide), ?_⟩
  refine List.forall_mem_cons.mpr ⟨ok_aload_n hx hb rfl dd_X8_layParties_34, ?_⟩
  refine List.forall_mem_cons.mpr ⟨ok_getR (j := 12) hx hb hts zi_X8 hown hK zc_X8 (by decide) rfl (fun t fl h => by cases h; rfl) (hts _ wd_852) dd_X8_layParties_35, ?_⟩
  refine List.forall_mem_cons.mpr ⟨ok_iload hx hb dd_X8_layParties_38, ?_⟩
  refine List.forall_mem_cons.mpr ⟨ok_ald (ty := 0) rfl hx hb hK (Or.inl ⟨rfl, rfl, dd_X8_layParties_40⟩), ?_⟩
  refine List.forall_mem_cons.mpr ⟨ok_bipush hx hb dd_X8_layParties_41 (by decide), ?_⟩
  refine List.forall_mem_cons.mpr ⟨ok_icmp_le hx hb dd_X8_layParties_43 (by decide), ?_⟩
  refine List.forall_mem_cons.mpr ⟨ok_aload_n hx hb rfl dd_X8_layParties_46, ?_⟩
  refine List.forall_mem_cons.mpr ⟨ok_iload_n hx hb rfl dd_X8_layParties_47, ?_⟩
  refine List.forall_mem_cons.mpr ⟨ok_iload_n hx hb rfl dd_X8_layParties_48, ?_⟩
  refine List.forall_mem_cons.mpr ⟨ok_callV (n := 2) zc_X8 rv_X8_ruleOf C0 (h_X8_ruleOf (d + 7) (by omega)) (by decide) wd_1024 wd_1021 wd_1023 wd_72 wd_107 ⟨rfl, by decide +kernel, by decide +kernel, by decide +kernel⟩ dd_X8_layParties_49, ?_⟩
  refine List.forall_mem_cons.mpr ⟨ok_istore hx hb dd_X8_layParties_52, ?_⟩
  refine List.forall_mem_cons.mpr ⟨ok_iload hx hb dd_X8_layParties_54, ?_⟩
  refine List.forall_mem_cons.mpr ⟨ok_iload_n hx hb rfl dd_X8_layParties_56, ?_⟩
  refine List.forall_mem_cons.mpr ⟨ok_icmp_ge hx hb dd_X8_layParties_57 (by decide), ?_⟩
  refine List.forall_mem_cons.mpr ⟨ok_aload_n hx hb rfl dd_X8_layParties_60, ?_⟩
  refine List.forall_mem_cons.mpr ⟨ok_getR (j := 13) hx hb hts zi_X8 hown hK zc_X8 (by decide) rfl (fun t fl h => by cases h; rfl) (hts _ wd_853) dd_X8_layParties_61, ?_⟩
  refine List.forall_mem_cons.mpr ⟨ok_iload hx hb dd_X8_layParties_64, ?_⟩
  refine List.forall_mem_cons.mpr ⟨ok_ald (ty := 0) rfl hx hb hK (Or.inl ⟨rfl, rfl, dd_X8_layParties_66⟩), ?_⟩
  refine List.forall_mem_cons.mpr ⟨ok_goto hx hb dd_X8_layParties_67 (by decide), ?_⟩
  refine List.forall_mem_cons.mpr ⟨ok_iload hx hb dd_X8_layParties_70, ?_⟩
  refine List.forall_mem_cons.mpr ⟨ok_iconst hx hb dd_X8_layParties_72 (by decide), ?_⟩
  refine List.forall_mem_cons.mpr ⟨ok_icmp_ne hx hb dd_X8_layParties_73 (by decide), ?_⟩
  refine List.forall_mem_cons.mpr ⟨ok_iconst hx hb dd_X8_layParties_76 (by decide), ?_⟩
  refine List.forall_mem_cons.mpr ⟨ok_goto hx hb dd_X8_layParties_77 (by decide), ?_⟩
  refine List.forall_mem_cons.mpr ⟨ok_iload hx hb dd_X8_layParties_80, ?_⟩
  refine List.forall_mem_cons.mpr ⟨ok_iconst hx hb dd_X8_layParties_82 (by decide), ?_⟩
  refine List.forall_mem_cons.mpr ⟨ok_icmp_ne hx hb dd_X8_layParties_83 (by decide), ?_⟩
  refine List.forall_mem_cons.mpr ⟨ok_iconst hx hb dd_X8_layParties_86 (by decide), ?_⟩
  refine List.forall_mem_cons.mpr ⟨ok_goto hx hb dd_X8_layParties_87 (by decide), ?_⟩
  refine List.forall_mem_cons.mpr ⟨ok_iconst hx hb dd_X8_layParties_90 (by decide), ?_⟩
  refine List.forall_mem_cons.mpr ⟨ok_istore hx hb dd_X8_layParties_91, ?_⟩
  refine List.forall_mem_cons.mpr ⟨ok_iinc hx hb dd_X8_layParties_93 (by decide), ?_⟩
  refine List.forall_mem_cons.mpr ⟨ok_aload_n hx hb rfl dd_X8_layParties_96, ?_⟩
  refine List.forall_mem_cons.mpr ⟨ok_iload hx hb dd_X8_layParties_97, ?_⟩
  refine List.forall_mem_cons.mpr ⟨ok_callV (n := 1) zc_X8 rv_X8_backTo C0 (h_X8_backTo (d + 7) (by omega)) (by decide) wd_1066 wd_1063 wd_1065 wd_77 wd_107 ⟨rfl, by decide +kernel, by decide +kernel, by decide +kernel⟩ dd_X8_layParties_99, ?_⟩
  refine List.forall_mem_cons.mpr ⟨ok_aload_n hx hb rfl dd_X8_layParties_102, ?_⟩
  refine List.forall_mem_cons.mpr ⟨ok_iload hx hb dd_X8_layParties_103, ?_⟩
  refine List.forall_mem_cons.mpr ⟨ok_iload hx hb dd_X8_layParties_105, ?_⟩
  refine List.forall_mem_cons.mpr ⟨ok_callV (n := 2) zc_X8 rv_X8_judge C0 (h_X8_judge (d + 7) (by omega)) (by decide) wd_1098 wd_1095 wd_1097 wd_83 wd_107 ⟨rfl, by decide +kernel, by decide +kernel, by decide +kernel⟩ dd_X8_layParties_107, ?_⟩
  refine List.forall_mem_cons.mpr ⟨ok_goto hx hb dd_X8_layParties_110 (by decide), ?_⟩
  refine List.forall_mem_cons.mpr ⟨ok_aload_n hx hb rfl dd_X8_layParties_113, ?_⟩
  refine List.forall_mem_cons.mpr ⟨ok_aload_n hx hb rfl dd_X8_layParties_114, ?_⟩
  refine List.forall_mem_cons.mpr ⟨ok_getR (j := 12) hx hb hts zi_X8 hown hK zc_X8 (by decide) rfl (fun t fl h => by cases h; rfl) (hts _ wd_852) dd_X8_layParties_115, ?_⟩
  refine List.forall_mem_cons.mpr ⟨ok_iload hx hb dd_X8_layParties_118, ?_⟩
  refine List.forall_mem_cons.mpr ⟨ok_ald (ty := 0) rfl hx hb hK (Or.inl ⟨rfl, rfl, dd_X8_layParties_120⟩), ?_⟩
  refine List.forall_mem_cons.mpr ⟨ok_callV (n := 1) zc_X8 rv_X8_mayStroke C0 (h_X8_mayStroke (d + 7) (by omega)) (by decide) wd_1070 wd_1067 wd_1069 wd_78 wd_107 ⟨rfl, by decide +kernel, by decide +kernel, by decide +kernel⟩ dd_X8_layParties_121, ?_⟩
  refine List.forall_mem_cons.mpr ⟨ok_if_eq hx hb dd_X8_layParties_124 (by decide), ?_⟩
  refine List.forall_mem_cons.mpr ⟨ok_aload_n hx hb rfl dd_X8_layParties_127, ?_⟩
  refine List.forall_mem_cons.mpr ⟨ok_aload_n hx hb rfl dd_X8_layParties_128, ?_⟩
  refine List.forall_mem_cons.mpr ⟨ok_getR (j := 12) hx hb hts zi_X8 hown hK zc_X8 (by decide) rfl (fun t fl h => by cases h; rfl) (hts _ wd_852) dd_X8_layParties_129, ?_⟩
  refine List.forall_mem_cons.mpr ⟨ok_iload hx hb dd_X8_layParties_132, ?_⟩
  refine List.forall_mem_cons.mpr ⟨ok_ald (ty := 0) rfl hx hb hK (Or.inl ⟨rfl, rfl, dd_X8_layParties_134⟩), ?_⟩
  refine List.forall_mem_cons.mpr ⟨ok_iload_n hx hb rfl dd_X8_layParties_135, ?_⟩
  refine List.forall_mem_cons.mpr ⟨ok_iload hx hb dd_X8_layParties_136, ?_⟩
  refine List.forall_mem_cons.mpr ⟨ok_iconst hx hb dd_X8_layParties_138 (by decide), ?_⟩
  refine List.forall_mem_cons.mpr ⟨ok_irem hx hb dd_X8_layParties_139, ?_⟩
  refine List.forall_mem_cons.mpr ⟨ok_if_ne hx hb dd_X8_layParties_140 (by decide), ?_⟩
  refine List.forall_mem_cons.mpr ⟨ok_iconst hx hb dd_X8_layParties_143 (by decide), ?_⟩
  refine List.forall_mem_cons.mpr ⟨ok_goto hx hb dd_X8_layParties_144 (by decide), ?_⟩
  refine List.forall_mem_cons.mpr ⟨ok_iconst hx hb dd_X8_layParties_147 (by decide), ?_⟩
  refine List.forall_mem_cons.mpr ⟨ok_callV (n := 3) zc_X8 rv_X8_goStroke C0 (h_X8_goStroke (d + 7) (by omega)) (by decide) wd_1077 wd_1074 wd_1076 wd_79 wd_107 ⟨rfl, by decide +kernel, by decide +kernel, by decide +kernel⟩ dd_X8_layParties_148, ?_⟩
  refine List.forall_mem_cons.mpr ⟨ok_iinc hx hb dd_X8_layParties_151 (by decide), ?_⟩
  refine List.forall_mem_cons.mpr ⟨ok_aload_n hx hb rfl dd_X8_layParties_154, ?_⟩
  refine List.forall_mem_cons.mpr ⟨ok_iload hx hb dd_X8_layParties_155, ?_⟩
  refine List.forall_mem_cons.mpr ⟨ok_callV (n := 1) zc_X8 rv_X8_layTurn C0 (h_X8_layTurn (d + 7) (by omega)) (by decide) wd_1094 wd_1091 wd_1093 wd_82 wd_107 ⟨rfl, by decide +kernel, by decide +kernel, by decide +kernel⟩ dd_X8_layParties_157, ?_⟩
  refine List.forall_mem_cons.mpr ⟨ok_goto hx hb dd_X8_layParties_160 (by decide), ?_⟩
  refine List.forall_mem_cons.mpr ⟨ok_aload_n hx hb rfl dd_X8_layParties_163, ?_⟩
  refine List.forall_mem_cons.mpr ⟨ok_getR (j := 12) hx hb hts zi_X8 hown hK zc_X8 (by decide) rfl (fun t fl h => by cases h; rfl) (hts _ wd_852) dd_X8_layParties_164, ?_⟩
  refine List.forall_mem_cons.mpr ⟨ok_iload hx hb dd_X8_layParties_167, ?_⟩
  refine List.forall_mem_cons.mpr ⟨ok_dup2 hx hb dd_X8_layParties_169, ?_⟩
  refine List.forall_mem_cons.mpr ⟨ok_ald (ty := 0) rfl hx hb hK (Or.inl ⟨rfl, rfl, dd_X8_layParties_170⟩), ?_⟩
  refine List.forall_mem_cons.mpr ⟨ok_iconst hx hb dd_X8_layParties_171 (by decide), ?_⟩
  refine List.forall_mem_cons.mpr ⟨ok_iadd hx hb dd_X8_layParties_172, ?_⟩
  refine List.forall_mem_cons.mpr ⟨ok_ast (ty := 0) rfl hx hb hK hD (Or.inl ⟨rfl, rfl, dd_X8_layParties_173⟩), ?_⟩
  refine List.forall_mem_cons.mpr ⟨ok_goto hx hb dd_X8_layParties_174 (by decide), ?_⟩
  refine List.forall_mem_cons.mpr ⟨ok_aload_n hx hb rfl dd_X8_layParties_177, ?_⟩
  refine List.forall_mem_cons.mpr ⟨ok_getR (j := 13) hx hb hts zi_X8 hown hK zc_X8 (by decide) rfl (fun t fl h => by cases h; rfl) (hts _ wd_853) dd_X8_layParties_178, ?_⟩
  refine List.forall_mem_cons.mpr ⟨ok_iconst hx hb dd_X8_layParties_181 (by decide), ?_⟩
  refine List.forall_mem_cons.mpr ⟨ok_ald (ty := 0) rfl hx hb hK (Or.inl ⟨rfl, rfl, dd_X8_layParties_182⟩), ?_⟩
  refine List.forall_mem_cons.mpr ⟨ok_iret hx hb hr hlocks hQ dd_X8_layParties_183, ?_⟩
  exact fun _ h => absurd h List.not_mem_nil
set_option maxRecDepth 100000 in
theorem vc_X8_layParties_0 {kd : Nat → Nat} {K : zK} {X : zX} (hX : ∀ (n pc : Nat) (ls : zLS) (st : List zV) (M : zM), zrun (tb_X8_layParties kd K) [(12, [5, 6]), (28, [5, 6]), (46, [5, 6]), (93, [5]), (113, [5, 6])] n X pc ls st M → X pc ls st M) {g : Int32} {y : Int32} {n : Int32} {M : zM} (hk0 : kd 9 = 8) (h : ∀ f1 : Nat → Int32, (∀ j9, j9 < 127 → f1 j9 = M.1 9 1 j9) → ∀ M1 : zM, (M1 = zmw M 9 5 f1) → (0 ≤ (0 : Int32).toInt ∧ (0 : Int32).toInt < 4) ∧ ∀ M2 : zM, (ltn M1 (0 : Int32).toInt.toNat M2) → X 12 [some (zR 9 0), some (zI (g)), some (zI (y)), some (zI (n)), some (zI ((0 : Int32))), none, none] [] M2) : X 0 [some (zR 9 0), some (zI (g)), some (zI (y)), some (zI (n)), none, none, none] [] M := hX 9 0 _ [] M (show (kd 9 = 8) ∧ ∀ f1 : Nat → Int32, (∀ j9, j9 < 127 → f1 j9 = M.1 9 1 j9) → ∀ M1 : zM, (M1 = zmw M 9 5 f1) → (kd 9 = 8) ∧ (0 ≤ (0 : Int32).toInt ∧ (0 : Int32).toInt < 4) ∧ ∀ M2 : zM, (ltn M1 (0 : Int32).toInt.toNat M2) → X 12 [some (zR 9 0), some (zI (g)), some (zI (y)), some (zI (n)), some (zI ((0 : Int32))), none, none] [] M2 from ⟨hk0, fun f1 => have h := h f1; fun q => have h := h q; fun M1 => have h := h M1; fun q => have h := h q; ⟨hk0, ⟨h.1, have h := h.2; fun M2 => have h := h M2; fun q => have h := h q; h⟩⟩⟩)
set_option maxRecDepth 100000 in
theorem vc_X8_layParties_12 {kd : Nat → Nat} {K : zK} {X : zX} (hX : ∀ (n pc : Nat) (ls : zLS) (st : List zV) (M : zM), zrun (tb_X8_layParties kd K) [(12, [5, 6]), (28, [5, 6]), (46, [5, 6]), (93, [5]), (113, [5, 6])] n X pc ls st M → X pc ls st M) {g : Int32} {y : Int32} {n : Int32} {t : Int32} {M : zM} (hk0 : kd 9 = 8) (h : ((0 < t) → X 28 [some (zR 9 0), some (zI (g)), some (zI (y)), some (zI (n)), some (zI (t)), none, none] [] M) ∧ ((¬ 0 < t) → (zin (kd 9) 7 0 (0 : Int32)) ∧ (((20 : Int32) < (M.1 9 7 ((0 : Int32)).toNatClampNeg)) → (zin (kd 9) 8 0 (0 : Int32)) ∧ K (some (zI (M.1 9 8 ((0 : Int32)).toNatClampNeg))) M) ∧ ((¬ (20 : Int32) < (M.1 9 7 ((0 : Int32)).toNatClampNeg)) → X 28 [some (zR 9 0), some (zI (g)), some (zI (y)), some (zI (n)), some (zI (t)), none, none] [] M))) : X 12 [some (zR 9 0), some (zI (g)), some (zI (y)), some (zI (n)), some (zI (t)), none, none] [] M := hX 14 12 _ [] M (show ((0 < t) → X 28 [some (zR 9 0), some (zI (g)), some (zI (y)), some (zI (n)), some (zI (t)), none, none] [] M) ∧ ((¬ 0 < t) → (kd 9 = 8) ∧ (zin (kd 9) 7 0 (0 : Int32)) ∧ (((20 : Int32) < (M.1 9 7 ((0 : Int32)).toNatClampNeg)) → (kd 9 = 8) ∧ (zin (kd 9) 8 0 (0 : Int32)) ∧ K (some (zI (M.1 9 8 ((0 : Int32)).toNatClampNeg))) M) ∧ ((¬ (20 : Int32) < (M.1 9 7 ((0 : Int32)).toNatClampNeg)) → X 28 [some (zR 9 0), some (zI (g)), some (zI (y)), some (zI (n)), some (zI (t)), none, none] [] M)) from ⟨fun q => have h := h.1 q; h, fun q => have h := h.2 q; ⟨hk0, ⟨h.1, have h := h.2; ⟨fun q => have h := h.1 q; ⟨hk0, ⟨h.1, have h := h.2; h⟩⟩, fun q => have h := h.2 q; h⟩⟩⟩⟩)
set_option maxRecDepth 100000 in
theorem vc_X8_layParties_28 {kd : Nat → Nat} {K : zK} {X : zX} (hX : ∀ (n pc : Nat) (ls : zLS) (st : List zV) (M : zM), zrun (tb_X8_layParties kd K) [(12, [5, 6]), (28, [5, 6]), (46, [5, 6]), (93, [5]), (113, [5, 6])] n X pc ls st M → X pc ls st M) {g : Int32} {y : Int32} {n : Int32} {t : Int32} {M : zM} (hk0 : kd 9 = 8) (h : ((t = n) → X 46 [some (zR 9 0), some (zI (g)), some (zI (y)), some (zI (n)), some (zI (t)), none, none] [] M) ∧ ((¬ t = n) → (zin (kd 9) 7 0 t) ∧ (((M.1 9 7 (t).toNatClampNeg) ≤ (20 : Int32)) → X 113 [some (zR 9 0), some (zI (g)), some (zI (y)), some (zI (n)), some (zI (t)), none, none] [] M) ∧ ((¬ (M.1 9 7 (t).toNatClampNeg) ≤ (20 : Int32)) → X 46 [some (zR 9 0), some (zI (g)), some (zI (y)), some (zI (n)), some (zI (t)), none, none] [] M))) : X 28 [some (zR 9 0), some (zI (g)), some (zI (y)), some (zI (n)), some (zI (t)), none, none] [] M := hX 11 28 _ [] M (show ((t = n) → X 46 [some (zR 9 0), some (zI (g)), some (zI (y)), some (zI (n)), some (zI (t)), none, none] [] M) ∧ ((¬ t = n) → (kd 9 = 8) ∧ (zin (kd 9) 7 0 t) ∧ (((M.1 9 7 (t).toNatClampNeg) ≤ (20 : Int32)) → X 113 [some (zR 9 0), some (zI (g)), some (zI (y)), some (zI (n)), some (zI (t)), none, none] [] M) ∧ ((¬ (M.1 9 7 (t).toNatClampNeg) ≤ (20 : Int32)) → X 46 [some (zR 9 0), some (zI (g)), some (zI (y)), some (zI (n)), some (zI (t)), none, none] [] M)) from ⟨fun q => have h := h.1 q; h, fun q => have h := h.2 q; ⟨hk0, ⟨h.1, have h := h.2; ⟨fun q => have h := h.1 q; h, fun q => have h := h.2 q; h⟩⟩⟩⟩)
set_option maxRecDepth 100000 in
theorem vc_X8_layParties_46 {kd : Nat → Nat} {K : zK} {X : zX} (hX : ∀ (n pc : Nat) (ls : zLS) (st : List zV) (M : zM), zrun (tb_X8_layParties kd K) [(12, [5, 6]), (28, [5, 6]), (46, [5, 6]), (93, [5]), (113, [5, 6])] n X pc ls st M → X pc ls st M) {g : Int32} {y : Int32} {n : Int32} {t : Int32} {M : zM} (hk0 : kd 9 = 8) (h : ∃ a1 : Sk, (RpF (M.1 9 5) a1) ∧ (0 ≤ y.toInt ∧ y.toInt < 1000000) ∧ ∀ v1 : Int32, (v1.toInt = sk_law a1 g.toInt y.toInt) → ∀ f1 : Nat → Int32, ((f1 7).toInt = sk_N a1 g.toInt 1 y.toInt ∧ (f1 8).toInt = sk_N a1 g.toInt 0 y.toInt ∧ ∀ j9, j9 ≠ 7 → j9 ≠ 8 → f1 j9 = M.1 9 0 j9) → ∀ M1 : zM, (M1 = zmw M 9 0 f1) → ((n ≤ t) → ((¬ v1 = (1 : Int32)) → ((¬ v1 = (2 : Int32)) → X 93 [some (zR 9 0), some (zI (g)), some (zI (y)), some (zI (n)), some (zI (t)), none, some (zI ((1 : Int32)))] [] M1) ∧ ((v1 = (2 : Int32)) → X 93 [some (zR 9 0), some (zI (g)), some (zI (y)), some (zI (n)), some (zI (t)), none, some (zI ((0 : Int32)))] [] M1)) ∧ ((v1 = (1 : Int32)) → X 93 [some (zR 9 0), some (zI (g)), some (zI (y)), some (zI (n)), some (zI (t)), none, some (zI ((2 : Int32)))] [] M1)) ∧ ((¬ n ≤ t) → (zin (kd 9) 8 0 t) ∧ X 93 [some (zR 9 0), some (zI (g)), some (zI (y)), some (zI (n)), some (zI (t)), none, some (zI (M1.1 9 8 (t).toNatClampNeg))] [] M1)) : X 46 [some (zR 9 0), some (zI (g)), some (zI (y)), some (zI (n)), some (zI (t)), none, none] [] M := hX 19 46 _ [] M (show (kd 9 = 8) ∧ ∃ a1 : Sk, (RpF (M.1 9 5) a1) ∧ (0 ≤ y.toInt ∧ y.toInt < 1000000) ∧ ∀ v1 : Int32, (v1.toInt = sk_law a1 g.toInt y.toInt) → ∀ f1 : Nat → Int32, ((f1 7).toInt = sk_N a1 g.toInt 1 y.toInt ∧ (f1 8).toInt = sk_N a1 g.toInt 0 y.toInt ∧ ∀ j9, j9 ≠ 7 → j9 ≠ 8 → f1 j9 = M.1 9 0 j9) → ∀ M1 : zM, (M1 = zmw M 9 0 f1) → ((n ≤ t) → ((¬ v1 = (1 : Int32)) → ((¬ v1 = (2 : Int32)) → X 93 [some (zR 9 0), some (zI (g)), some (zI (y)), some (zI (n)), some (zI (t)), none, some (zI ((1 : Int32)))] [] M1) ∧ ((v1 = (2 : Int32)) → X 93 [some (zR 9 0), some (zI (g)), some (zI (y)), some (zI (n)), some (zI (t)), none, some (zI ((0 : Int32)))] [] M1)) ∧ ((v1 = (1 : Int32)) → X 93 [some (zR 9 0), some (zI (g)), some (zI (y)), some (zI (n)), some (zI (t)), none, some (zI ((2 : Int32)))] [] M1)) ∧ ((¬ n ≤ t) → (kd 9 = 8) ∧ (zin (kd 9) 8 0 t) ∧ X 93 [some (zR 9 0), some (zI (g)), some (zI (y)), some (zI (n)), some (zI (t)), none, some (zI (M1.1 9 8 (t).toNatClampNeg))] [] M1) from ⟨hk0, h.elim (fun a1 h => ⟨a1, ⟨h.1, have h := h.2; ⟨h.1, have h := h.2; fun v1 => have h := h v1; fun q => have h := h q; fun f1 => have h := h f1; fun q => have h := h q; fun M1 => have h := h M1; fun q => have h := h q; ⟨fun q => have h := h.1 q; ⟨fun q => have h := h.1 q; ⟨fun q => have h := h.1 q; h, fun q => have h := h.2 q; h⟩, fun q => have h := h.2 q; h⟩, fun q => have h := h.2 q; ⟨hk0, ⟨h.1, have h := h.2; h⟩⟩⟩⟩⟩⟩)⟩)
set_option maxRecDepth 100000 in
theorem vc_X8_layParties_93 {kd : Nat → Nat} {K : zK} {X : zX} (hX : ∀ (n pc : Nat) (ls : zLS) (st : List zV) (M : zM), zrun (tb_X8_layParties kd K) [(12, [5, 6]), (28, [5, 6]), (46, [5, 6]), (93, [5]), (113, [5, 6])] n X pc ls st M → X pc ls st M) {g : Int32} {y : Int32} {n : Int32} {t : Int32} {v : Int32} {M : zM} (hk0 : kd 9 = 8) (h : (0 ≤ (t + (-1)).toInt ∧ (t + (-1)).toInt < 4) ∧ ∀ f1 : Nat → Int32, (∀ j9, j9 < 127 → f1 j9 = M.1 9 6 (127 * (t + (-1)).toInt.toNat + j9)) → ∀ M1 : zM, (M1 = zmw M 9 5 f1) → (0 ≤ (t + (-1)).toInt ∧ (t + (-1)).toInt < 4) ∧ ∀ M2 : zM, (M2 = jdg M1 (t + (-1)).toInt.toNat v) → X 12 [some (zR 9 0), some (zI (g)), some (zI (y)), some (zI (n)), some (zI (t + (-1))), none, none] [] M2) : X 93 [some (zR 9 0), some (zI (g)), some (zI (y)), some (zI (n)), some (zI (t)), none, some (zI (v))] [] M := hX 11 93 _ [] M (show (kd 9 = 8) ∧ (0 ≤ (t + (-1)).toInt ∧ (t + (-1)).toInt < 4) ∧ ∀ f1 : Nat → Int32, (∀ j9, j9 < 127 → f1 j9 = M.1 9 6 (127 * (t + (-1)).toInt.toNat + j9)) → ∀ M1 : zM, (M1 = zmw M 9 5 f1) → (kd 9 = 8) ∧ (0 ≤ (t + (-1)).toInt ∧ (t + (-1)).toInt < 4) ∧ ∀ M2 : zM, (M2 = jdg M1 (t + (-1)).toInt.toNat v) → X 12 [some (zR 9 0), some (zI (g)), some (zI (y)), some (zI (n)), some (zI (t + (-1))), none, none] [] M2 from ⟨hk0, ⟨h.1, have h := h.2; fun f1 => have h := h f1; fun q => have h := h q; fun M1 => have h := h M1; fun q => have h := h q; ⟨hk0, ⟨h.1, have h := h.2; fun M2 => have h := h M2; fun q => have h := h q; h⟩⟩⟩⟩)
set_option maxRecDepth 100000 in
theorem vc_X8_layParties_113 {kd : Nat → Nat} {K : zK} {X : zX} (hX : ∀ (n pc : Nat) (ls : zLS) (st : List zV) (M : zM), zrun (tb_X8_layParties kd K) [(12, [5, 6]), (28, [5, 6]), (46, [5, 6]), (93, [5]), (113, [5, 6])] n X pc ls st M → X pc ls st M) {g : Int32} {y : Int32} {n : Int32} {t : Int32} {M : zM} (hk0 : kd 9 = 8) (h : (zin (kd 9) 7 0 t) ∧ ∃ a1 : Sk, (RpF (M.1 9 5) a1) ∧ (0 ≤ (M.1 9 7 (t).toNatClampNeg).toInt ∧ (M.1 9 7 (t).toNatClampNeg).toInt ≤ 20) ∧ ∀ v1 : Int32, (v1 = zp (tr_may a1 (M.1 9 7 (t).toNatClampNeg).toInt = true)) → ((v1 = 0) → (zin (kd 9) 7 0 t) ∧ (zin (kd 9) 7 0 t) ∧ ∀ M2 : zM, (M2 = zmw M 9 7 (upd (M.1 9 7) (t).toNatClampNeg ((M.1 9 7 (t).toNatClampNeg) + (1 : Int32)))) → X 12 [some (zR 9 0), some (zI (g)), some (zI (y)), some (zI (n)), some (zI (t)), none, none] [] M2) ∧ ((¬ v1 = 0) → (zin (kd 9) 7 0 t) ∧ ((¬ (t - t / (2 : Int32) * (2 : Int32)) = 0) → ∃ a3 : Sk, (RpF (M.1 9 5) a3) ∧ (0 ≤ (M.1 9 7 (t).toNatClampNeg).toInt ∧ (M.1 9 7 (t).toNatClampNeg).toInt ≤ 20) ∧ (tr_may a3 (M.1 9 7 (t).toNatClampNeg).toInt = true) ∧ (0 ≤ g.toInt ∧ g.toInt ≤ 4) ∧ ((0 : Int32).toInt = 0 ∨ (0 : Int32).toInt = 1) ∧ ∀ f3 : Nat → Int32, (RpF f3 (tr_do a3 (M.1 9 7 (t).toNatClampNeg).toInt g.toInt (0 : Int32).toInt)) → ∀ M3 : zM, (M3 = zmw M 9 5 f3) → (0 ≤ (t + 1).toInt ∧ (t + 1).toInt < 4) ∧ ∀ M4 : zM, (ltn M3 (t + 1).toInt.toNat M4) → X 12 [some (zR 9 0), some (zI (g)), some (zI (y)), some (zI (n)), some (zI (t + 1)), none, none] [] M4) ∧ (((t - t / (2 : Int32) * (2 : Int32)) = 0) → ∃ a5 : Sk, (RpF (M.1 9 5) a5) ∧ (0 ≤ (M.1 9 7 (t).toNatClampNeg).toInt ∧ (M.1 9 7 (t).toNatClampNeg).toInt ≤ 20) ∧ (tr_may a5 (M.1 9 7 (t).toNatClampNeg).toInt = true) ∧ (0 ≤ g.toInt ∧ g.toInt ≤ 4) ∧ ((1 : Int32).toInt = 0 ∨ (1 : Int32).toInt = 1) ∧ ∀ f5 : Nat → Int32, (RpF f5 (tr_do a5 (M.1 9 7 (t).toNatClampNeg).toInt g.toInt (1 : Int32).toInt)) → ∀ M5 : zM, (M5 = zmw M 9 5 f5) → (0 ≤ (t + 1).toInt ∧ (t + 1).toInt < 4) ∧ ∀ M6 : zM, (ltn M5 (t + 1).toInt.toNat M6) → X 12 [some (zR 9 0), some (zI (g)), some (zI (y)), some (zI (n)), some (zI (t + 1)), none, none] [] M6))) : X 113 [some (zR 9 0), some (zI (g)), some (zI (y)), some (zI (n)), some (zI (t)), none, none] [] M := hX 27 113 _ [] M (show (kd 9 = 8) ∧ (zin (kd 9) 7 0 t) ∧ (kd 9 = 8) ∧ ∃ a1 : Sk, (RpF (M.1 9 5) a1) ∧ (0 ≤ (M.1 9 7 (t).toNatClampNeg).toInt ∧ (M.1 9 7 (t).toNatClampNeg).toInt ≤ 20) ∧ ∀ v1 : Int32, (v1 = zp (tr_may a1 (M.1 9 7 (t).toNatClampNeg).toInt = true)) → ((v1 = 0) → (kd 9 = 8) ∧ (zin (kd 9) 7 0 t) ∧ (zin (kd 9) 7 0 t) ∧ ∀ M2 : zM, (M2 = zmw M 9 7 (upd (M.1 9 7) (t).toNatClampNeg ((M.1 9 7 (t).toNatClampNeg) + (1 : Int32)))) → X 12 [some (zR 9 0), some (zI (g)), some (zI (y)), some (zI (n)), some (zI (t)), none, none] [] M2) ∧ ((¬ v1 = 0) → (kd 9 = 8) ∧ (zin (kd 9) 7 0 t) ∧ (¬ (2 : Int32) = 0) ∧ ((¬ (t - t / (2 : Int32) * (2 : Int32)) = 0) → (kd 9 = 8) ∧ ∃ a3 : Sk, (RpF (M.1 9 5) a3) ∧ (0 ≤ (M.1 9 7 (t).toNatClampNeg).toInt ∧ (M.1 9 7 (t).toNatClampNeg).toInt ≤ 20) ∧ (tr_may a3 (M.1 9 7 (t).toNatClampNeg).toInt = true) ∧ (0 ≤ g.toInt ∧ g.toInt ≤ 4) ∧ ((0 : Int32).toInt = 0 ∨ (0 : Int32).toInt = 1) ∧ ∀ f3 : Nat → Int32, (RpF f3 (tr_do a3 (M.1 9 7 (t).toNatClampNeg).toInt g.toInt (0 : Int32).toInt)) → ∀ M3 : zM, (M3 = zmw M 9 5 f3) → (kd 9 = 8) ∧ (0 ≤ (t + 1).toInt ∧ (t + 1).toInt < 4) ∧ ∀ M4 : zM, (ltn M3 (t + 1).toInt.toNat M4) → X 12 [some (zR 9 0), some (zI (g)), some (zI (y)), some (zI (n)), some (zI (t + 1)), none, none] [] M4) ∧ (((t - t / (2 : Int32) * (2 : Int32)) = 0) → (kd 9 = 8) ∧ ∃ a5 : Sk, (RpF (M.1 9 5) a5) ∧ (0 ≤ (M.1 9 7 (t).toNatClampNeg).toInt ∧ (M.1 9 7 (t).toNatClampNeg).toInt ≤ 20) ∧ (tr_may a5 (M.1 9 7 (t).toNatClampNeg).toInt = true) ∧ (0 ≤ g.toInt ∧ g.toInt ≤ 4) ∧ ((1 : Int32).toInt = 0 ∨ (1 : Int32).toInt = 1) ∧ ∀ f5 : Nat → Int32, (RpF f5 (tr_do a5 (M.1 9 7 (t).toNatClampNeg).toInt g.toInt (1 : Int32).toInt)) → ∀ M5 : zM, (M5 = zmw M 9 5 f5) → (kd 9 = 8) ∧ (0 ≤ (t + 1).toInt ∧ (t + 1).toInt < 4) ∧ ∀ M6 : zM, (ltn M5 (t + 1).toInt.toNat M6) → X 12 [some (zR 9 0), some (zI (g)), some (zI (y)), some (zI (n)), some (zI (t + 1)), none, none] [] M6)) from ⟨hk0, ⟨h.1, have h := h.2; ⟨hk0, h.elim (fun a1 h => ⟨a1, ⟨h.1, have h := h.2; ⟨h.1, have h := h.2; fun v1 => have h := h v1; fun q => have h := h q; ⟨fun q => have h := h.1 q; ⟨hk0, ⟨h.1, have h := h.2; ⟨h.1, have h := h.2; fun M2 => have h := h M2; fun q => have h := h q; h⟩⟩⟩, fun q => have h := h.2 q; ⟨hk0, ⟨h.1, have h := h.2; ⟨(by decide), ⟨fun q => have h := h.1 q; ⟨hk0, h.elim (fun a3 h => ⟨a3, ⟨h.1, have h := h.2; ⟨h.1, have h := h.2; ⟨h.1, have h := h.2; ⟨h.1, have h := h.2; ⟨h.1, have h := h.2; fun f3 => have h := h f3; fun q => have h := h q; fun M3 => have h := h M3; fun q => have h := h q; ⟨hk0, ⟨h.1, have h := h.2; fun M4 => have h := h M4; fun q => have h := h q; h⟩⟩⟩⟩⟩⟩⟩⟩)⟩, fun q => have h := h.2 q; ⟨hk0, h.elim (fun a5 h => ⟨a5, ⟨h.1, have h := h.2; ⟨h.1, have h := h.2; ⟨h.1, have h := h.2; ⟨h.1, have h := h.2; ⟨h.1, have h := h.2; fun f5 => have h := h f5; fun q => have h := h q; fun M5 => have h := h M5; fun q => have h := h q; ⟨hk0, ⟨h.1, have h := h.2; fun M6 => have h := h M6; fun q => have h := h q; h⟩⟩⟩⟩⟩⟩⟩⟩)⟩⟩⟩⟩⟩⟩⟩⟩⟩)⟩⟩⟩)
def sp_X8_parties : zSpec := fun kd as M K => match as with
  | [.inr (.inr (.inl (9, 0))), .inl g, .inl y, .inl n, .inl w] => (kd 9 = 8) ∧ ∃ s : St, (RpM M s) ∧ ∀ v : Int32, (v.toInt = (ev_parties s g.toInt y.toInt n.toInt w.toInt).1) → ∀ M' : zM, (RpM M' (ev_parties s g.toInt y.toInt n.toInt w.toInt).2) → (fr0 M M') → K (some (.inl v)) M'
  | _ => False
theorem rv_X8_parties : zrv sp_X8_parties 8 4 := by
  intro kd as M K h
  unfold sp_X8_parties at h
  split at h
  · exact ⟨_, _, rfl, h.1⟩
  · exact h.elim
theorem dd_X8_parties_0 : decode cX8_parties 0 = .ok (.iload_n 1, 1) := by decide +kernel
theorem dd_X8_parties_1 : decode cX8_parties 1 = .ok (.invokestatic 78, 3) := by decide +kernel
theorem dd_X8_parties_4 : decode cX8_parties 4 = .ok (.ifCond .eq 38, 3) := by decide +kernel
theorem dd_X8_parties_7 : decode cX8_parties 7 = .ok (.iload_n 2, 1) := by decide +kernel
theorem dd_X8_parties_8 : decode cX8_parties 8 = .ok (.i2l, 1) := by decide +kernel
theorem dd_X8_parties_9 : decode cX8_parties 9 = .ok (.lconst 0, 1) := by decide +kernel
theorem dd_X8_parties_10 : decode cX8_parties 10 = .ok (.ldc2_w 103, 3) := by decide +kernel
theorem dd_X8_parties_13 : decode cX8_parties 13 = .ok (.invokestatic 54, 3) := by decide +kernel
theorem dd_X8_parties_16 : decode cX8_parties 16 = .ok (.ifCond .eq 26, 3) := by decide +kernel
theorem dd_X8_parties_19 : decode cX8_parties 19 = .ok (.iload_n 3, 1) := by decide +kernel
theorem dd_X8_parties_20 : decode cX8_parties 20 = .ok (.i2l, 1) := by decide +kernel
theorem dd_X8_parties_21 : decode cX8_parties 21 = .ok (.lconst 1, 1) := by decide +kernel
theorem dd_X8_parties_22 : decode cX8_parties 22 = .ok (.ldc2_w 194, 3) := by decide +kernel
theorem dd_X8_parties_25 : decode cX8_parties 25 = .ok (.invokestatic 54, 3) := by decide +kernel
theorem dd_X8_parties_28 : decode cX8_parties 28 = .ok (.ifCond .eq 14, 3) := by decide +kernel
theorem dd_X8_parties_31 : decode cX8_parties 31 = .ok (.iload 4, 2) := by decide +kernel
theorem dd_X8_parties_33 : decode cX8_parties 33 = .ok (.i2l, 1) := by decide +kernel
theorem dd_X8_parties_34 : decode cX8_parties 34 = .ok (.lconst 0, 1) := by decide +kernel
theorem dd_X8_parties_35 : decode cX8_parties 35 = .ok (.lconst 1, 1) := by decide +kernel
theorem dd_X8_parties_36 : decode cX8_parties 36 = .ok (.invokestatic 54, 3) := by decide +kernel
theorem dd_X8_parties_39 : decode cX8_parties 39 = .ok (.ifCond .ne 10, 3) := by decide +kernel
theorem dd_X8_parties_42 : decode cX8_parties 42 = .ok (.aload_n 0, 1) := by decide +kernel
theorem dd_X8_parties_43 : decode cX8_parties 43 = .ok (.bipush (-2), 2) := by decide +kernel
theorem dd_X8_parties_45 : decode cX8_parties 45 = .ok (.invokevirtual 81, 3) := by decide +kernel
theorem dd_X8_parties_48 : decode cX8_parties 48 = .ok (.ireturn, 1) := by decide +kernel
theorem dd_X8_parties_49 : decode cX8_parties 49 = .ok (.aload_n 0, 1) := by decide +kernel
theorem dd_X8_parties_50 : decode cX8_parties 50 = .ok (.iload_n 1, 1) := by decide +kernel
theorem dd_X8_parties_51 : decode cX8_parties 51 = .ok (.aload_n 0, 1) := by decide +kernel
theorem dd_X8_parties_52 : decode cX8_parties 52 = .ok (.getfield 7, 3) := by decide +kernel
theorem dd_X8_parties_55 : decode cX8_parties 55 = .ok (.bipush 126, 2) := by decide +kernel
theorem dd_X8_parties_57 : decode cX8_parties 57 = .ok (.iaload, 1) := by decide +kernel
theorem dd_X8_parties_58 : decode cX8_parties 58 = .ok (.iload_n 2, 1) := by decide +kernel
theorem dd_X8_parties_59 : decode cX8_parties 59 = .ok (.iadd, 1) := by decide +kernel
theorem dd_X8_parties_60 : decode cX8_parties 60 = .ok (.iload_n 3, 1) := by decide +kernel
theorem dd_X8_parties_61 : decode cX8_parties 61 = .ok (.invokevirtual 196, 3) := by decide +kernel
theorem dd_X8_parties_64 : decode cX8_parties 64 = .ok (.istore 5, 2) := by decide +kernel
theorem dd_X8_parties_66 : decode cX8_parties 66 = .ok (.iload 4, 2) := by decide +kernel
theorem dd_X8_parties_68 : decode cX8_parties 68 = .ok (.ifCond .ne 8, 3) := by decide +kernel
theorem dd_X8_parties_71 : decode cX8_parties 71 = .ok (.iload 5, 2) := by decide +kernel
theorem dd_X8_parties_73 : decode cX8_parties 73 = .ok (.goto 7, 3) := by decide +kernel
theorem dd_X8_parties_76 : decode cX8_parties 76 = .ok (.aload_n 0, 1) := by decide +kernel
theorem dd_X8_parties_77 : decode cX8_parties 77 = .ok (.getfield 185, 3) := by decide +kernel
theorem dd_X8_parties_80 : decode cX8_parties 80 = .ok (.ireturn, 1) := by decide +kernel
def tb_X8_parties (kd : Nat → Nat) (K : zK) : zTab := [(0, zt_iload 1 1), (1, zt_call kd sp_X8_isThing 1 4), (4, zt_if (fun x => x = 0) (fun x => ¬ x = 0) 42 7), (7, zt_iload 2 8), (8, zt_un (fun x => zL x.toInt64) 9), (9, zt_const (zL 0) 10), (10, zt_const (zL 99) 13), (13, zt_call kd sp_X8_in 3 16), (16, zt_if (fun x => x = 0) (fun x => ¬ x = 0) 42 19), (19, zt_iload 3 20), (20, zt_un (fun x => zL x.toInt64) 21), (21, zt_const (zL 1) 22), (22, zt_const (zL 3) 25), (25, zt_call kd sp_X8_in 3 28), (28, zt_if (fun x => x = 0) (fun x => ¬ x = 0) 42 31), (31, zt_iload 4 33), (33, zt_un (fun x => zL x.toInt64) 34), (34, zt_const (zL 0) 35), (35, zt_const (zL 1) 36), (36, zt_call kd sp_X8_in 3 39), (39, zt_if (fun x => ¬ x = 0) (fun x => x = 0) 49 42), (42, zt_aload 0 43), (43, zt_const (zI (-2)) 45), (45, zt_call kd sp_X8_bad 2 48), (48, zt_iret K), (49, zt_aload 0 50), (50, zt_iload 1 51), (51, zt_aload 0 52), (52, zt_getR kd 8 0 1 55), (55, zt_const (zI 126) 57), (57, zt_ald kd 0 58), (58, zt_iload 2 59), (59, zt_bin (fun x y => x + y) 60), (60, zt_iload 3 61), (61, zt_call kd sp_X8_layParties 4 64), (64, zt_istore 5 66), (66, zt_iload 4 68), (68, zt_if (fun x => ¬ x = 0) (fun x => x = 0) 76 71), (71, zt_iload 5 73), (73, zt_goto 80), (76, zt_aload 0 77), (77, zt_getI kd 8 14 80), (80, zt_iret K)]
set_option maxRecDepth 20000 in
theorem tk_X8_parties (d : Nat) (h_X8_isThing : zMS 2 yX8_isThing cX8_isThing 1 (some .boolean) sp_X8_isThing) (h_X8_in : zMS 1 yX8_in cX8_in 6 (some .boolean) sp_X8_in) (h_X8_bad : zMS 1 yX8_bad cX8_bad 2 (some .int) sp_X8_bad) (h_X8_layParties : zMS 8 yX8_layParties cX8_layParties 7 (some .int) sp_X8_layParties) : zTrue RX8 cX8_parties 6 (some .int) (d + 9) (fun kd K => tb_X8_parties kd K) := by
  intro p l e R s m args below meth c D cy A ad bl Qm K C0 hr hlocks hQ
  obtain ⟨hx, hb, hml, hown, hts, hK, hD, hA0, hN, hE, ⟨hR1, hR2⟩, hc1, hc2⟩ := id C0
  unfold tb_X8_parties
  refine List.forall_mem_cons.mpr ⟨ok_iload_n hx hb rfl dd_X8_parties_0, ?_⟩
  refine List.forall_mem_cons.mpr ⟨ok_callS (n := 1) C0 (h_X8_isThing (d + 8) (by omega)) (by decide) wd_931 wd_929 wd_930 wd_107 ⟨by decide +kernel, by decide +kernel, by decide +kernel⟩ dd_X8_parties_1, ?_⟩
  refine List.forall_mem_cons.mpr ⟨ok_if_eq hx hb dd_X8_parties_4 (by decide), ?_⟩
  refine List.forall_mem_cons.mpr ⟨ok_iload_n hx hb rfl dd_X8_parties_7, ?_⟩
  refine List.forall_mem_cons.mpr ⟨ok_i2l hx hb dd_X8_parties_8, ?_⟩
  refine List.forall_mem_cons.mpr ⟨ok_lconst hx hb dd_X8_parties_9 (by decide), ?_⟩
  refine List.forall_mem_cons.mpr ⟨ok_ldc2 hx hb hown (hts _ wd_969) dd_X8_parties_10, ?_⟩
  refine List.forall_mem_cons.mpr ⟨ok_callS (n := 3) C0 (h_X8_in (d + 8) (by omega)) (by decide) wd_928 wd_926 wd_927 wd_107 ⟨by decide +kernel, by decide +kernel, by decide +kernel⟩ dd_X8_parties_13, ?_⟩
  refine List.forall_mem_cons.mpr ⟨ok_if_eq hx hb dd_X8_parties_16 (by decide), ?_⟩
  refine List.forall_mem_cons.mpr ⟨ok_iload_n hx hb rfl dd_X8_parties_19, ?_⟩
  refine List.forall_mem_cons.mpr ⟨ok_i2l hx hb dd_X8_parties_20, ?_⟩
  refine List.forall_mem_cons.mpr ⟨ok_lconst hx hb dd_X8_parties_21 (by decide), ?_⟩
  refine List.forall_mem_cons.mpr ⟨ok_ldc2 hx hb hown (hts _ wd_1086) dd_X8_parties_22, ?_⟩
  refine List.forall_mem_cons.mpr ⟨ok_callS (n := 3) C0 (h_X8_in (d + 8) (by omega)) (by decide) wd_928 wd_926 wd_927 wd_107 ⟨by decide +kernel, by decide +kernel, by decide +kernel⟩ dd_X8_parties_25, ?_⟩
  refine List.forall_mem_cons.mpr ⟨ok_if_eq hx hb dd_X8_parties_28 (by decide), ?_⟩
  refine List.forall_mem_cons.mpr ⟨ok_iload hx hb dd_X8_parties_31, ?_⟩
  refine List.forall_mem_cons.mpr ⟨ok_i2l hx hb dd_X8_parties_33, ?_⟩
  refine List.forall_mem_cons.mpr ⟨ok_lconst hx hb dd_X8_parties_34 (by decide), ?_⟩
  refine List.forall_mem_cons.mpr ⟨ok_lconst hx hb dd_X8_parties_35 (by decide), ?_⟩
  refine List.forall_mem_cons.mpr ⟨ok_callS (n := 3) C0 (h_X8_in (d + 8) (by omega)) (by decide) wd_928 wd_926 wd_927 wd_107 ⟨by decide +kernel, by decide +kernel, by decide +kernel⟩ dd_X8_parties_36, ?_⟩
  refine List.forall_mem_cons.mpr ⟨ok_if_ne hx hb dd_X8_parties_39 (by decide), ?_⟩
  refine List.forall_mem_cons.mpr ⟨ok_aload_n hx hb rfl dd_X8_parties_42, ?_⟩
  refine List.forall_mem_cons.mpr ⟨ok_bipush hx hb dd_X8_parties_43 (by decide), ?_⟩
  refine List.forall_mem_cons.mpr ⟨ok_callV (n := 1) zc_X8 rv_X8_bad C0 (h_X8_bad (d + 8) (by omega)) (by decide) wd_936 wd_933 wd_935 wd_62 wd_107 ⟨rfl, by decide +kernel, by decide +kernel, by decide +kernel⟩ dd_X8_parties_45, ?_⟩
  refine List.forall_mem_cons.mpr ⟨ok_iret hx hb hr hlocks hQ dd_X8_parties_48, ?_⟩
  refine List.forall_mem_cons.mpr ⟨ok_aload_n hx hb rfl dd_X8_parties_49, ?_⟩
  refine List.forall_mem_cons.mpr ⟨ok_iload_n hx hb rfl dd_X8_parties_50, ?_⟩
  refine List.forall_mem_cons.mpr ⟨ok_aload_n hx hb rfl dd_X8_parties_51, ?_⟩
  refine List.forall_mem_cons.mpr ⟨ok_getR (j := 0) hx hb hts zi_X8 hown hK zc_X8 (by decide) rfl (fun t fl h => by cases h; rfl) (hts _ wd_840) dd_X8_parties_52, ?_⟩
  refine List.forall_mem_cons.mpr ⟨ok_bipush hx hb dd_X8_parties_55 (by decide), ?_⟩
  refine List.forall_mem_cons.mpr ⟨ok_ald (ty := 0) rfl hx hb hK (Or.inl ⟨rfl, rfl, dd_X8_parties_57⟩), ?_⟩
  refine List.forall_mem_cons.mpr ⟨ok_iload_n hx hb rfl dd_X8_parties_58, ?_⟩
  refine List.forall_mem_cons.mpr ⟨ok_iadd hx hb dd_X8_parties_59, ?_⟩
  refine List.forall_mem_cons.mpr ⟨ok_iload_n hx hb rfl dd_X8_parties_60, ?_⟩
  refine List.forall_mem_cons.mpr ⟨ok_callV (n := 3) zc_X8 rv_X8_layParties C0 (h_X8_layParties (d + 8) (by omega)) (by decide) wd_1090 wd_1087 wd_1089 wd_81 wd_107 ⟨rfl, by decide +kernel, by decide +kernel, by decide +kernel⟩ dd_X8_parties_61, ?_⟩
  refine List.forall_mem_cons.mpr ⟨ok_istore hx hb dd_X8_parties_64, ?_⟩
  refine List.forall_mem_cons.mpr ⟨ok_iload hx hb dd_X8_parties_66, ?_⟩
  refine List.forall_mem_cons.mpr ⟨ok_if_ne hx hb dd_X8_parties_68 (by decide), ?_⟩
  refine List.forall_mem_cons.mpr ⟨ok_iload hx hb dd_X8_parties_71, ?_⟩
  refine List.forall_mem_cons.mpr ⟨ok_goto hx hb dd_X8_parties_73 (by decide), ?_⟩
  refine List.forall_mem_cons.mpr ⟨ok_aload_n hx hb rfl dd_X8_parties_76, ?_⟩
  refine List.forall_mem_cons.mpr ⟨ok_getI (j := 14) hx hb hts zi_X8 hown hK zc_X8 (by decide) rfl (fun t fl h => by cases h; rfl) (hts _ wd_854) dd_X8_parties_77, ?_⟩
  refine List.forall_mem_cons.mpr ⟨ok_iret hx hb hr hlocks hQ dd_X8_parties_80, ?_⟩
  exact fun _ h => absurd h List.not_mem_nil
set_option maxRecDepth 100000 in
theorem vc_X8_parties_0 {kd : Nat → Nat} {K : zK} {X : zX} (hX : ∀ (n pc : Nat) (ls : zLS) (st : List zV) (M : zM), zrun (tb_X8_parties kd K) [] n X pc ls st M → X pc ls st M) {g : Int32} {y : Int32} {n : Int32} {w : Int32} {M : zM} (hk0 : kd 9 = 8) (h : ∀ v1 : Int32, (v1 = zp (isT g.toInt)) → ((v1 = 0) → ∀ v2 : Int32, (v2 = (-2 : Int32)) → ∀ M2 : zM, (M2 = zmw M 9 4 (upd (M.1 9 4) 0 (M.1 9 4 0 + 1))) → K (some (zI (v2))) M2) ∧ ((¬ v1 = 0) → ∀ v3 : Int32, (v3 = zp ((0 : Int64).toInt ≤ y.toInt64.toInt ∧ y.toInt64.toInt ≤ (99 : Int64).toInt)) → ((v3 = 0) → ∀ v4 : Int32, (v4 = (-2 : Int32)) → ∀ M4 : zM, (M4 = zmw M 9 4 (upd (M.1 9 4) 0 (M.1 9 4 0 + 1))) → K (some (zI (v4))) M4) ∧ ((¬ v3 = 0) → ∀ v5 : Int32, (v5 = zp ((1 : Int64).toInt ≤ n.toInt64.toInt ∧ n.toInt64.toInt ≤ (3 : Int64).toInt)) → ((v5 = 0) → ∀ v6 : Int32, (v6 = (-2 : Int32)) → ∀ M6 : zM, (M6 = zmw M 9 4 (upd (M.1 9 4) 0 (M.1 9 4 0 + 1))) → K (some (zI (v6))) M6) ∧ ((¬ v5 = 0) → ∀ v7 : Int32, (v7 = zp ((0 : Int64).toInt ≤ w.toInt64.toInt ∧ w.toInt64.toInt ≤ (1 : Int64).toInt)) → ((¬ v7 = 0) → (zin (kd 9) 1 0 (126 : Int32)) ∧ ∃ a8 : Sk, (RpF (M.1 9 1) a8) ∧ (isT g.toInt ∧ inn n.toInt 1 3 ∧ 0 ≤ ((M.1 9 1 ((126 : Int32)).toNatClampNeg) + y).toInt ∧ ((M.1 9 1 ((126 : Int32)).toNatClampNeg) + y).toInt < 1000000) ∧ ∀ v8 : Int32, (v8.toInt = wv g.toInt ((M.1 9 1 ((126 : Int32)).toNatClampNeg) + y).toInt n.toInt.toNat 1 a8) → ∀ M8 : zM, (scr M M8) → ((M8.1 9 0 14).toInt = wc g.toInt ((M.1 9 1 ((126 : Int32)).toNatClampNeg) + y).toInt (n.toInt.toNat - 1) 1 a8) → ((¬ w = 0) → K (some (zI (M8.1 9 0 14))) M8) ∧ ((w = 0) → K (some (zI (v8))) M8)) ∧ ((v7 = 0) → ∀ v9 : Int32, (v9 = (-2 : Int32)) → ∀ M9 : zM, (M9 = zmw M 9 4 (upd (M.1 9 4) 0 (M.1 9 4 0 + 1))) → K (some (zI (v9))) M9))))) : X 0 [some (zR 9 0), some (zI (g)), some (zI (y)), some (zI (n)), some (zI (w)), none] [] M := hX 38 0 _ [] M (show ∀ v1 : Int32, (v1 = zp (isT g.toInt)) → ((v1 = 0) → (kd 9 = 8) ∧ ∀ v2 : Int32, (v2 = (-2 : Int32)) → ∀ M2 : zM, (M2 = zmw M 9 4 (upd (M.1 9 4) 0 (M.1 9 4 0 + 1))) → K (some (zI (v2))) M2) ∧ ((¬ v1 = 0) → ∀ v3 : Int32, (v3 = zp ((0 : Int64).toInt ≤ y.toInt64.toInt ∧ y.toInt64.toInt ≤ (99 : Int64).toInt)) → ((v3 = 0) → (kd 9 = 8) ∧ ∀ v4 : Int32, (v4 = (-2 : Int32)) → ∀ M4 : zM, (M4 = zmw M 9 4 (upd (M.1 9 4) 0 (M.1 9 4 0 + 1))) → K (some (zI (v4))) M4) ∧ ((¬ v3 = 0) → ∀ v5 : Int32, (v5 = zp ((1 : Int64).toInt ≤ n.toInt64.toInt ∧ n.toInt64.toInt ≤ (3 : Int64).toInt)) → ((v5 = 0) → (kd 9 = 8) ∧ ∀ v6 : Int32, (v6 = (-2 : Int32)) → ∀ M6 : zM, (M6 = zmw M 9 4 (upd (M.1 9 4) 0 (M.1 9 4 0 + 1))) → K (some (zI (v6))) M6) ∧ ((¬ v5 = 0) → ∀ v7 : Int32, (v7 = zp ((0 : Int64).toInt ≤ w.toInt64.toInt ∧ w.toInt64.toInt ≤ (1 : Int64).toInt)) → ((¬ v7 = 0) → (kd 9 = 8) ∧ (zin (kd 9) 1 0 (126 : Int32)) ∧ (kd 9 = 8) ∧ ∃ a8 : Sk, (RpF (M.1 9 1) a8) ∧ (isT g.toInt ∧ inn n.toInt 1 3 ∧ 0 ≤ ((M.1 9 1 ((126 : Int32)).toNatClampNeg) + y).toInt ∧ ((M.1 9 1 ((126 : Int32)).toNatClampNeg) + y).toInt < 1000000) ∧ ∀ v8 : Int32, (v8.toInt = wv g.toInt ((M.1 9 1 ((126 : Int32)).toNatClampNeg) + y).toInt n.toInt.toNat 1 a8) → ∀ M8 : zM, (scr M M8) → ((M8.1 9 0 14).toInt = wc g.toInt ((M.1 9 1 ((126 : Int32)).toNatClampNeg) + y).toInt (n.toInt.toNat - 1) 1 a8) → ((¬ w = 0) → (kd 9 = 8) ∧ K (some (zI (M8.1 9 0 14))) M8) ∧ ((w = 0) → K (some (zI (v8))) M8)) ∧ ((v7 = 0) → (kd 9 = 8) ∧ ∀ v9 : Int32, (v9 = (-2 : Int32)) → ∀ M9 : zM, (M9 = zmw M 9 4 (upd (M.1 9 4) 0 (M.1 9 4 0 + 1))) → K (some (zI (v9))) M9)))) from fun v1 => have h := h v1; fun q => have h := h q; ⟨fun q => have h := h.1 q; ⟨hk0, fun v2 => have h := h v2; fun q => have h := h q; fun M2 => have h := h M2; fun q => have h := h q; h⟩, fun q => have h := h.2 q; fun v3 => have h := h v3; fun q => have h := h q; ⟨fun q => have h := h.1 q; ⟨hk0, fun v4 => have h := h v4; fun q => have h := h q; fun M4 => have h := h M4; fun q => have h := h q; h⟩, fun q => have h := h.2 q; fun v5 => have h := h v5; fun q => have h := h q; ⟨fun q => have h := h.1 q; ⟨hk0, fun v6 => have h := h v6; fun q => have h := h q; fun M6 => have h := h M6; fun q => have h := h q; h⟩, fun q => have h := h.2 q; fun v7 => have h := h v7; fun q => have h := h q; ⟨fun q => have h := h.1 q; ⟨hk0, ⟨h.1, have h := h.2; ⟨hk0, h.elim (fun a8 h => ⟨a8, ⟨h.1, have h := h.2; ⟨h.1, have h := h.2; fun v8 => have h := h v8; fun q => have h := h q; fun M8 => have h := h M8; fun q => have h := h q; fun q => have h := h q; ⟨fun q => have h := h.1 q; ⟨hk0, h⟩, fun q => have h := h.2 q; h⟩⟩⟩⟩)⟩⟩⟩, fun q => have h := h.2 q; ⟨hk0, fun v9 => have h := h v9; fun q => have h := h q; fun M9 => have h := h M9; fun q => have h := h q; h⟩⟩⟩⟩⟩)
