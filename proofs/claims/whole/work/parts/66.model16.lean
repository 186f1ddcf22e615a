
def sk_bo (a : Sk) (c th le y : Int) : Int := zsm (fun i => if sk_q a c i th le y then 2 ^ i else 0) 4
def sp_X8_bindingOf : zSpec := fun kd as M K => match as with
  | [.inr (.inr (.inl (9, 0))), .inl c, .inl g, .inl e, .inl y] => (kd 9 = 8) ∧ ∃ a : Sk, (RpF (M.1 9 5) a) ∧ (isC c.toInt) ∧ (0 ≤ y.toInt ∧ y.toInt < 1000000) ∧ ∀ v : Int32, (v.toInt = sk_bo a c.toInt g.toInt e.toInt y.toInt) → K (some (.inl v)) M
  | _ => False
theorem rv_X8_bindingOf : zrv sp_X8_bindingOf 8 4 := by
  intro kd as M K h
  unfold sp_X8_bindingOf at h
  split at h
  · exact ⟨_, _, rfl, h.1⟩
  · exact h.elim
theorem dd_X8_bindingOf_0 : decode cX8_bindingOf 0 = .ok (.iconst 0, 1) := by decide +kernel
theorem dd_X8_bindingOf_1 : decode cX8_bindingOf 1 = .ok (.istore 5, 2) := by decide +kernel
theorem dd_X8_bindingOf_3 : decode cX8_bindingOf 3 = .ok (.iconst 0, 1) := by decide +kernel
theorem dd_X8_bindingOf_4 : decode cX8_bindingOf 4 = .ok (.istore 6, 2) := by decide +kernel
theorem dd_X8_bindingOf_6 : decode cX8_bindingOf 6 = .ok (.iload 6, 2) := by decide +kernel
theorem dd_X8_bindingOf_8 : decode cX8_bindingOf 8 = .ok (.aload_n 0, 1) := by decide +kernel
theorem dd_X8_bindingOf_9 : decode cX8_bindingOf 9 = .ok (.getfield 27, 3) := by decide +kernel
theorem dd_X8_bindingOf_12 : decode cX8_bindingOf 12 = .ok (.iconst 0, 1) := by decide +kernel
theorem dd_X8_bindingOf_13 : decode cX8_bindingOf 13 = .ok (.iload_n 1, 1) := by decide +kernel
theorem dd_X8_bindingOf_14 : decode cX8_bindingOf 14 = .ok (.iadd, 1) := by decide +kernel
theorem dd_X8_bindingOf_15 : decode cX8_bindingOf 15 = .ok (.iaload, 1) := by decide +kernel
theorem dd_X8_bindingOf_16 : decode cX8_bindingOf 16 = .ok (.if_icmp .ge 70, 3) := by decide +kernel
theorem dd_X8_bindingOf_19 : decode cX8_bindingOf 19 = .ok (.aload_n 0, 1) := by decide +kernel
theorem dd_X8_bindingOf_20 : decode cX8_bindingOf 20 = .ok (.iload_n 1, 1) := by decide +kernel
theorem dd_X8_bindingOf_21 : decode cX8_bindingOf 21 = .ok (.iload 6, 2) := by decide +kernel
theorem dd_X8_bindingOf_23 : decode cX8_bindingOf 23 = .ok (.iconst 1, 1) := by decide +kernel
theorem dd_X8_bindingOf_24 : decode cX8_bindingOf 24 = .ok (.invokevirtual 113, 3) := by decide +kernel
theorem dd_X8_bindingOf_27 : decode cX8_bindingOf 27 = .ok (.iload_n 2, 1) := by decide +kernel
theorem dd_X8_bindingOf_28 : decode cX8_bindingOf 28 = .ok (.if_icmp .ne 31, 3) := by decide +kernel
theorem dd_X8_bindingOf_31 : decode cX8_bindingOf 31 = .ok (.aload_n 0, 1) := by decide +kernel
theorem dd_X8_bindingOf_32 : decode cX8_bindingOf 32 = .ok (.iload_n 1, 1) := by decide +kernel
theorem dd_X8_bindingOf_33 : decode cX8_bindingOf 33 = .ok (.iload 6, 2) := by decide +kernel
theorem dd_X8_bindingOf_35 : decode cX8_bindingOf 35 = .ok (.iconst 2, 1) := by decide +kernel
theorem dd_X8_bindingOf_36 : decode cX8_bindingOf 36 = .ok (.invokevirtual 113, 3) := by decide +kernel
theorem dd_X8_bindingOf_39 : decode cX8_bindingOf 39 = .ok (.iload_n 3, 1) := by decide +kernel
theorem dd_X8_bindingOf_40 : decode cX8_bindingOf 40 = .ok (.if_icmp .ne 19, 3) := by decide +kernel
theorem dd_X8_bindingOf_43 : decode cX8_bindingOf 43 = .ok (.aload_n 0, 1) := by decide +kernel
theorem dd_X8_bindingOf_44 : decode cX8_bindingOf 44 = .ok (.iload_n 1, 1) := by decide +kernel
theorem dd_X8_bindingOf_45 : decode cX8_bindingOf 45 = .ok (.iload 6, 2) := by decide +kernel
theorem dd_X8_bindingOf_47 : decode cX8_bindingOf 47 = .ok (.iload 4, 2) := by decide +kernel
theorem dd_X8_bindingOf_49 : decode cX8_bindingOf 49 = .ok (.invokevirtual 130, 3) := by decide +kernel
theorem dd_X8_bindingOf_52 : decode cX8_bindingOf 52 = .ok (.ifCond .eq 7, 3) := by decide +kernel
theorem dd_X8_bindingOf_55 : decode cX8_bindingOf 55 = .ok (.iconst 1, 1) := by decide +kernel
theorem dd_X8_bindingOf_56 : decode cX8_bindingOf 56 = .ok (.goto 4, 3) := by decide +kernel
theorem dd_X8_bindingOf_59 : decode cX8_bindingOf 59 = .ok (.iconst 0, 1) := by decide +kernel
theorem dd_X8_bindingOf_60 : decode cX8_bindingOf 60 = .ok (.istore 7, 2) := by decide +kernel
theorem dd_X8_bindingOf_62 : decode cX8_bindingOf 62 = .ok (.iload 5, 2) := by decide +kernel
theorem dd_X8_bindingOf_64 : decode cX8_bindingOf 64 = .ok (.iload 7, 2) := by decide +kernel
theorem dd_X8_bindingOf_66 : decode cX8_bindingOf 66 = .ok (.ifCond .eq 10, 3) := by decide +kernel
theorem dd_X8_bindingOf_69 : decode cX8_bindingOf 69 = .ok (.iconst 1, 1) := by decide +kernel
theorem dd_X8_bindingOf_70 : decode cX8_bindingOf 70 = .ok (.iload 6, 2) := by decide +kernel
theorem dd_X8_bindingOf_72 : decode cX8_bindingOf 72 = .ok (.ishl, 1) := by decide +kernel
theorem dd_X8_bindingOf_73 : decode cX8_bindingOf 73 = .ok (.goto 4, 3) := by decide +kernel
theorem dd_X8_bindingOf_76 : decode cX8_bindingOf 76 = .ok (.iconst 0, 1) := by decide +kernel
theorem dd_X8_bindingOf_77 : decode cX8_bindingOf 77 = .ok (.ior, 1) := by decide +kernel
theorem dd_X8_bindingOf_78 : decode cX8_bindingOf 78 = .ok (.istore 5, 2) := by decide +kernel
theorem dd_X8_bindingOf_80 : decode cX8_bindingOf 80 = .ok (.iinc 6 1, 3) := by decide +kernel
theorem dd_X8_bindingOf_83 : decode cX8_bindingOf 83 = .ok (.goto (-77), 3) := by decide +kernel
theorem dd_X8_bindingOf_86 : decode cX8_bindingOf 86 = .ok (.iload 5, 2) := by decide +kernel
theorem dd_X8_bindingOf_88 : decode cX8_bindingOf 88 = .ok (.ireturn, 1) := by decide +kernel
def tb_X8_bindingOf (kd : Nat → Nat) (K : zK) : zTab := [(0, zt_const (zI 0) 1), (1, zt_istore 5 3), (3, zt_const (zI 0) 4), (4, zt_istore 6 6), (6, zt_iload 6 8), (8, zt_aload 0 9), (9, zt_getR kd 8 0 5 12), (12, zt_const (zI 0) 13), (13, zt_iload 1 14), (14, zt_bin (fun x y => x + y) 15), (15, zt_ald kd 0 16), (16, zt_icmp (fun x y => y ≤ x) (fun x y => ¬ y ≤ x) 86 19), (19, zt_aload 0 20), (20, zt_iload 1 21), (21, zt_iload 6 23), (23, zt_const (zI 1) 24), (24, zt_call kd sp_X8_hands 4 27), (27, zt_iload 2 28), (28, zt_icmp (fun x y => ¬ x = y) (fun x y => x = y) 59 31), (31, zt_aload 0 32), (32, zt_iload 1 33), (33, zt_iload 6 35), (35, zt_const (zI 2) 36), (36, zt_call kd sp_X8_hands 4 39), (39, zt_iload 3 40), (40, zt_icmp (fun x y => ¬ x = y) (fun x y => x = y) 59 43), (43, zt_aload 0 44), (44, zt_iload 1 45), (45, zt_iload 6 47), (47, zt_iload 4 49), (49, zt_call kd sp_X8_bindsNow 4 52), (52, zt_if (fun x => x = 0) (fun x => ¬ x = 0) 59 55), (55, zt_const (zI 1) 56), (56, zt_goto 60), (59, zt_const (zI 0) 60), (60, zt_istore 7 62), (62, zt_iload 5 64), (64, zt_iload 7 66), (66, zt_if (fun x => x = 0) (fun x => ¬ x = 0) 76 69), (69, zt_const (zI 1) 70), (70, zt_iload 6 72), (72, zt_bin (fun x y => x <<< (y &&& 31)) 73), (73, zt_goto 77), (76, zt_const (zI 0) 77), (77, zt_bin (fun x y => x ||| y) 78), (78, zt_istore 5 80), (80, zt_iinc 6 1 83), (83, zt_goto 6), (86, zt_iload 5 88), (88, zt_iret K)]
set_option maxRecDepth 20000 in
theorem tk_X8_bindingOf (d : Nat) (h_X8_hands : zMS 2 yX8_hands cX8_hands 4 (some .int) sp_X8_hands) (h_X8_bindsNow : zMS 5 yX8_bindsNow cX8_bindsNow 4 (some .boolean) sp_X8_bindsNow) : zTrue RX8 cX8_bindingOf 8 (some .int) (d + 6) (fun kd K => tb_X8_bindingOf kd K) := by
  intro p l e R s m args below meth c D cy A ad bl Qm K C0 hr hlocks hQ
  obtain ⟨hx, hb, hml, hown, hts, hK, hD, hA0, hN, hE, ⟨hR1, hR2⟩, hc1, hc2⟩ := id C0
  unfold tb_X8_bindingOf
  refine List.forall_mem_cons.mpr ⟨ok_iconst hx hb dd_X8_bindingOf_0 (by decide), ?_⟩
  refine List.forall_mem_cons.mpr ⟨ok_istore hx hb dd_X8_bindingOf_1, ?_⟩
  refine List.forall_mem_cons.mpr ⟨ok_iconst hx hb dd_X8_bindingOf_3 (by decide), ?_⟩
  refine List.forall_mem_cons.mpr ⟨ok_istore hx hb dd_X8_bindingOf_4, ?_⟩
  refine List.forall_mem_cons.mpr ⟨ok_iload hx hb dd_X8_bindingOf_6, ?_⟩
  refine List.forall_mem_cons.mpr ⟨ok_aload_n hx hb rfl dd_X8_bindingOf_8, ?_⟩
  refine List.forall_mem_cons.mpr ⟨ok_getR (j := 6) hx hb hts zi_X8 hown hK zc_X8 (by decide) rfl (fun t fl h => by cases h; rfl) (hts _ wd_846) dd_X8_bindingOf_9, ?_⟩
  refine List.forall_mem_cons.mpr ⟨ok_iconst hx hb dd_X8_bindingOf_12 (by decide), ?_⟩
  refine List.forall_mem_cons.mpr ⟨ok_iload_n hx hb rfl dd_X8_bindingOf_13, ?_⟩
  refine List.forall_mem_cons.mpr ⟨ok_iadd hx hb dd_X8_bindingOf_14, ?_⟩
  refine List.forall_mem_cons.mpr ⟨ok_ald (ty := 0) rfl hx hb hK (Or.inl ⟨rfl, rfl, dd_X8_bindingOf_15⟩), ?_⟩
  refine List.forall_mem_cons.mpr ⟨ok_icmp_ge hx hb dd_X8_bindingOf_16 (by decide), ?_⟩
  refine List.forall_mem_cons.mpr ⟨ok_aload_n hx hb rfl dd_X8_bindingOf_19, ?_⟩
  refine List.forall_mem_cons.mpr ⟨ok_iload_n hx hb rfl dd_X8_bindingOf_20, ?_⟩
  refine List.forall_mem_cons.mpr ⟨ok_iload hx hb dd_X8_bindingOf_21, ?_⟩
  refine List.forall_mem_cons.mpr ⟨ok_iconst hx hb dd_X8_bindingOf_23 (by decide), ?_⟩
  refine List.forall_mem_cons.mpr ⟨ok_callV (n := 3) zc_X8 rv_X8_hands C0 (h_X8_hands (d + 5) (by omega)) (by decide) wd_1008 wd_1005 wd_1007 wd_69 wd_107 ⟨rfl, by decide +kernel, by decide +kernel, by decide +kernel⟩ dd_X8_bindingOf_24, ?_⟩
  refine List.forall_mem_cons.mpr ⟨ok_iload_n hx hb rfl dd_X8_bindingOf_27, ?_⟩
  refine List.forall_mem_cons.mpr ⟨ok_icmp_ne hx hb dd_X8_bindingOf_28 (by decide), ?_⟩
  refine List.forall_mem_cons.mpr ⟨ok_aload_n hx hb rfl dd_X8_bindingOf_31, ?_⟩
  refine List.forall_mem_cons.mpr ⟨ok_iload_n hx hb rfl dd_X8_bindingOf_32, ?_⟩
  refine List.forall_mem_cons.mpr ⟨ok_iload hx hb dd_X8_bindingOf_33, ?_⟩
  refine List.forall_mem_cons.mpr ⟨ok_iconst hx hb dd_X8_bindingOf_35 (by decide), ?_⟩
  refine List.forall_mem_cons.mpr ⟨ok_callV (n := 3) zc_X8 rv_X8_hands C0 (h_X8_hands (d + 5) (by omega)) (by decide) wd_1008 wd_1005 wd_1007 wd_69 wd_107 ⟨rfl, by decide +kernel, by decide +kernel, by decide +kernel⟩ dd_X8_bindingOf_36, ?_⟩
  refine List.forall_mem_cons.mpr ⟨ok_iload_n hx hb rfl dd_X8_bindingOf_39, ?_⟩
  refine List.forall_mem_cons.mpr ⟨ok_icmp_ne hx hb dd_X8_bindingOf_40 (by decide), ?_⟩
  refine List.forall_mem_cons.mpr ⟨ok_aload_n hx hb rfl dd_X8_bindingOf_43, ?_⟩
  refine List.forall_mem_cons.mpr ⟨ok_iload_n hx hb rfl dd_X8_bindingOf_44, ?_⟩
  refine List.forall_mem_cons.mpr ⟨ok_iload hx hb dd_X8_bindingOf_45, ?_⟩
  refine List.forall_mem_cons.mpr ⟨ok_iload hx hb dd_X8_bindingOf_47, ?_⟩
  refine List.forall_mem_cons.mpr ⟨ok_callV (n := 3) zc_X8 rv_X8_bindsNow C0 (h_X8_bindsNow (d + 5) (by omega)) (by decide) wd_1004 wd_1001 wd_1003 wd_68 wd_107 ⟨rfl, by decide +kernel, by decide +kernel, by decide +kernel⟩ dd_X8_bindingOf_49, ?_⟩
  refine List.forall_mem_cons.mpr ⟨ok_if_eq hx hb dd_X8_bindingOf_52 (by decide), ?_⟩
  refine List.forall_mem_cons.mpr ⟨ok_iconst hx hb dd_X8_bindingOf_55 (by decide), ?_⟩
  refine List.forall_mem_cons.mpr ⟨ok_goto hx hb dd_X8_bindingOf_56 (by decide), ?_⟩
  refine List.forall_mem_cons.mpr ⟨ok_iconst hx hb dd_X8_bindingOf_59 (by decide), ?_⟩
  refine List.forall_mem_cons.mpr ⟨ok_istore hx hb dd_X8_bindingOf_60, ?_⟩
  refine List.forall_mem_cons.mpr ⟨ok_iload hx hb dd_X8_bindingOf_62, ?_⟩
  refine List.forall_mem_cons.mpr ⟨ok_iload hx hb dd_X8_bindingOf_64, ?_⟩
  refine List.forall_mem_cons.mpr ⟨ok_if_eq hx hb dd_X8_bindingOf_66 (by decide), ?_⟩
  refine List.forall_mem_cons.mpr ⟨ok_iconst hx hb dd_X8_bindingOf_69 (by decide), ?_⟩
  refine List.forall_mem_cons.mpr ⟨ok_iload hx hb dd_X8_bindingOf_70, ?_⟩
  refine List.forall_mem_cons.mpr ⟨ok_ishl hx hb dd_X8_bindingOf_72, ?_⟩
  refine List.forall_mem_cons.mpr ⟨ok_goto hx hb dd_X8_bindingOf_73 (by decide), ?_⟩
  refine List.forall_mem_cons.mpr ⟨ok_iconst hx hb dd_X8_bindingOf_76 (by decide), ?_⟩
  refine List.forall_mem_cons.mpr ⟨ok_ior hx hb dd_X8_bindingOf_77, ?_⟩
  refine List.forall_mem_cons.mpr ⟨ok_istore hx hb dd_X8_bindingOf_78, ?_⟩
  refine List.forall_mem_cons.mpr ⟨ok_iinc hx hb dd_X8_bindingOf_80 (by decide), ?_⟩
  refine List.forall_mem_cons.mpr ⟨ok_goto hx hb dd_X8_bindingOf_83 (by decide), ?_⟩
  refine List.forall_mem_cons.mpr ⟨ok_iload hx hb dd_X8_bindingOf_86, ?_⟩
  refine List.forall_mem_cons.mpr ⟨ok_iret hx hb hr hlocks hQ dd_X8_bindingOf_88, ?_⟩
  exact fun _ h => absurd h List.not_mem_nil
set_option maxRecDepth 100000 in
theorem vc_X8_bindingOf_0 {kd : Nat → Nat} {K : zK} {X : zX} (hX : ∀ (n pc : Nat) (ls : zLS) (st : List zV) (M : zM), zrun (tb_X8_bindingOf kd K) [(6, [7])] n X pc ls st M → X pc ls st M) {c : Int32} {g : Int32} {e : Int32} {y : Int32} {M : zM}  (h : X 6 [some (zR 9 0), some (zI (c)), some (zI (g)), some (zI (e)), some (zI (y)), some (zI ((0 : Int32))), some (zI ((0 : Int32))), none] [] M) : X 0 [some (zR 9 0), some (zI (c)), some (zI (g)), some (zI (e)), some (zI (y)), none, none, none] [] M := hX 6 0 _ [] M (show X 6 [some (zR 9 0), some (zI (c)), some (zI (g)), some (zI (e)), some (zI (y)), some (zI ((0 : Int32))), some (zI ((0 : Int32))), none] [] M from h)
set_option maxRecDepth 100000 in
theorem vc_X8_bindingOf_6 {kd : Nat → Nat} {K : zK} {X : zX} (hX : ∀ (n pc : Nat) (ls : zLS) (st : List zV) (M : zM), zrun (tb_X8_bindingOf kd K) [(6, [7])] n X pc ls st M → X pc ls st M) {c : Int32} {g : Int32} {e : Int32} {y : Int32} {w : Int32} {i : Int32} {M : zM} (hk0 : kd 9 = 8) (h : (zin (kd 9) 5 0 ((0 : Int32) + c)) ∧ (((M.1 9 5 ((0 : Int32) + c).toNatClampNeg) ≤ i) → K (some (zI (w))) M) ∧ ((¬ (M.1 9 5 ((0 : Int32) + c).toNatClampNeg) ≤ i) → ∃ a1 : Sk, (RpF (M.1 9 5) a1) ∧ ∃ l1 : Ly, (sk_at a1 c.toInt i.toInt = some l1) ∧ (0 ≤ (1 : Int32).toInt ∧ (1 : Int32).toInt < 5) ∧ ∀ v1 : Int32, (v1.toInt = ly_f l1 (1 : Int32).toInt) → ((¬ v1 = g) → X 6 [some (zR 9 0), some (zI (c)), some (zI (g)), some (zI (e)), some (zI (y)), some (zI (w ||| (0 : Int32))), some (zI (i + 1)), none] [] M) ∧ ((v1 = g) → ∃ a2 : Sk, (RpF (M.1 9 5) a2) ∧ ∃ l2 : Ly, (sk_at a2 c.toInt i.toInt = some l2) ∧ (0 ≤ (2 : Int32).toInt ∧ (2 : Int32).toInt < 5) ∧ ∀ v2 : Int32, (v2.toInt = ly_f l2 (2 : Int32).toInt) → ((¬ v2 = e) → X 6 [some (zR 9 0), some (zI (c)), some (zI (g)), some (zI (e)), some (zI (y)), some (zI (w ||| (0 : Int32))), some (zI (i + 1)), none] [] M) ∧ ((v2 = e) → ∃ a3 : Sk, (RpF (M.1 9 5) a3) ∧ (¬ sk_at a3 c.toInt i.toInt = none) ∧ (0 ≤ y.toInt ∧ y.toInt < 1000000) ∧ ∀ v3 : Int32, (v3 = zp (sk_bd a3 c.toInt i.toInt y.toInt = true)) → ((v3 = 0) → X 6 [some (zR 9 0), some (zI (c)), some (zI (g)), some (zI (e)), some (zI (y)), some (zI (w ||| (0 : Int32))), some (zI (i + 1)), none] [] M) ∧ ((¬ v3 = 0) → X 6 [some (zR 9 0), some (zI (c)), some (zI (g)), some (zI (e)), some (zI (y)), some (zI (w ||| ((1 : Int32) <<< (i &&& 31)))), some (zI (i + 1)), none] [] M))))) : X 6 [some (zR 9 0), some (zI (c)), some (zI (g)), some (zI (e)), some (zI (y)), some (zI (w)), some (zI (i)), none] [] M := hX 44 6 _ [] M (show (kd 9 = 8) ∧ (zin (kd 9) 5 0 ((0 : Int32) + c)) ∧ (((M.1 9 5 ((0 : Int32) + c).toNatClampNeg) ≤ i) → K (some (zI (w))) M) ∧ ((¬ (M.1 9 5 ((0 : Int32) + c).toNatClampNeg) ≤ i) → (kd 9 = 8) ∧ ∃ a1 : Sk, (RpF (M.1 9 5) a1) ∧ ∃ l1 : Ly, (sk_at a1 c.toInt i.toInt = some l1) ∧ (0 ≤ (1 : Int32).toInt ∧ (1 : Int32).toInt < 5) ∧ ∀ v1 : Int32, (v1.toInt = ly_f l1 (1 : Int32).toInt) → ((¬ v1 = g) → (((0 : Int32) = 0) → X 6 [some (zR 9 0), some (zI (c)), some (zI (g)), some (zI (e)), some (zI (y)), some (zI (w ||| (0 : Int32))), some (zI (i + 1)), none] [] M) ∧ ((¬ (0 : Int32) = 0) → X 6 [some (zR 9 0), some (zI (c)), some (zI (g)), some (zI (e)), some (zI (y)), some (zI (w ||| ((1 : Int32) <<< (i &&& 31)))), some (zI (i + 1)), none] [] M)) ∧ ((v1 = g) → (kd 9 = 8) ∧ ∃ a2 : Sk, (RpF (M.1 9 5) a2) ∧ ∃ l2 : Ly, (sk_at a2 c.toInt i.toInt = some l2) ∧ (0 ≤ (2 : Int32).toInt ∧ (2 : Int32).toInt < 5) ∧ ∀ v2 : Int32, (v2.toInt = ly_f l2 (2 : Int32).toInt) → ((¬ v2 = e) → (((0 : Int32) = 0) → X 6 [some (zR 9 0), some (zI (c)), some (zI (g)), some (zI (e)), some (zI (y)), some (zI (w ||| (0 : Int32))), some (zI (i + 1)), none] [] M) ∧ ((¬ (0 : Int32) = 0) → X 6 [some (zR 9 0), some (zI (c)), some (zI (g)), some (zI (e)), some (zI (y)), some (zI (w ||| ((1 : Int32) <<< (i &&& 31)))), some (zI (i + 1)), none] [] M)) ∧ ((v2 = e) → (kd 9 = 8) ∧ ∃ a3 : Sk, (RpF (M.1 9 5) a3) ∧ (¬ sk_at a3 c.toInt i.toInt = none) ∧ (0 ≤ y.toInt ∧ y.toInt < 1000000) ∧ ∀ v3 : Int32, (v3 = zp (sk_bd a3 c.toInt i.toInt y.toInt = true)) → ((v3 = 0) → (((0 : Int32) = 0) → X 6 [some (zR 9 0), some (zI (c)), some (zI (g)), some (zI (e)), some (zI (y)), some (zI (w ||| (0 : Int32))), some (zI (i + 1)), none] [] M) ∧ ((¬ (0 : Int32) = 0) → X 6 [some (zR 9 0), some (zI (c)), some (zI (g)), some (zI (e)), some (zI (y)), some (zI (w ||| ((1 : Int32) <<< (i &&& 31)))), some (zI (i + 1)), none] [] M)) ∧ ((¬ v3 = 0) → (((1 : Int32) = 0) → X 6 [some (zR 9 0), some (zI (c)), some (zI (g)), some (zI (e)), some (zI (y)), some (zI (w ||| (0 : Int32))), some (zI (i + 1)), none] [] M) ∧ ((¬ (1 : Int32) = 0) → X 6 [some (zR 9 0), some (zI (c)), some (zI (g)), some (zI (e)), some (zI (y)), some (zI (w ||| ((1 : Int32) <<< (i &&& 31)))), some (zI (i + 1)), none] [] M))))) from ⟨hk0, ⟨h.1, have h := h.2; ⟨fun q => have h := h.1 q; h, fun q => have h := h.2 q; ⟨hk0, h.elim (fun a1 h => ⟨a1, ⟨h.1, have h := h.2; h.elim (fun l1 h => ⟨l1, ⟨h.1, have h := h.2; ⟨h.1, have h := h.2; fun v1 => have h := h v1; fun q => have h := h q; ⟨fun q => have h := h.1 q; ⟨fun _ => h, fun q => absurd q (by decide)⟩, fun q => have h := h.2 q; ⟨hk0, h.elim (fun a2 h => ⟨a2, ⟨h.1, have h := h.2; h.elim (fun l2 h => ⟨l2, ⟨h.1, have h := h.2; ⟨h.1, have h := h.2; fun v2 => have h := h v2; fun q => have h := h q; ⟨fun q => have h := h.1 q; ⟨fun _ => h, fun q => absurd q (by decide)⟩, fun q => have h := h.2 q; ⟨hk0, h.elim (fun a3 h => ⟨a3, ⟨h.1, have h := h.2; ⟨h.1, have h := h.2; ⟨h.1, have h := h.2; fun v3 => have h := h v3; fun q => have h := h q; ⟨fun q => have h := h.1 q; ⟨fun _ => h, fun q => absurd q (by decide)⟩, fun q => have h := h.2 q; ⟨fun q => absurd q (by decide), fun _ => h⟩⟩⟩⟩⟩⟩)⟩⟩⟩⟩⟩)⟩⟩)⟩⟩⟩⟩⟩)⟩⟩)⟩⟩⟩⟩)
def sp_X8_tear : zSpec := fun kd as M K => match as with
  | [.inr (.inr (.inl (9, 0))), .inl y, .inl c] => (kd 9 = 8) ∧ ∃ s : St, (RpM M s) ∧ ∀ v : Int32, (v.toInt = (ev_tear s y.toInt c.toInt).1) → ∀ M' : zM, (RpM M' (ev_tear s y.toInt c.toInt).2) → (fr0 M M') → K (some (.inl v)) M'
  | _ => False
theorem rv_X8_tear : zrv sp_X8_tear 8 2 := by
  intro kd as M K h
  unfold sp_X8_tear at h
  split at h
  · exact ⟨_, _, rfl, h.1⟩
  · exact h.elim
theorem dd_X8_tear_0 : decode cX8_tear 0 = .ok (.iload_n 1, 1) := by decide +kernel
theorem dd_X8_tear_1 : decode cX8_tear 1 = .ok (.invokestatic 142, 3) := by decide +kernel
theorem dd_X8_tear_4 : decode cX8_tear 4 = .ok (.ifCond .eq 17, 3) := by decide +kernel
theorem dd_X8_tear_7 : decode cX8_tear 7 = .ok (.iload_n 2, 1) := by decide +kernel
theorem dd_X8_tear_8 : decode cX8_tear 8 = .ok (.i2l, 1) := by decide +kernel
theorem dd_X8_tear_9 : decode cX8_tear 9 = .ok (.ldc2_w 148, 3) := by decide +kernel
theorem dd_X8_tear_12 : decode cX8_tear 12 = .ok (.ldc2_w 52, 3) := by decide +kernel
theorem dd_X8_tear_15 : decode cX8_tear 15 = .ok (.invokestatic 54, 3) := by decide +kernel
theorem dd_X8_tear_18 : decode cX8_tear 18 = .ok (.ifCond .ne 10, 3) := by decide +kernel
theorem dd_X8_tear_21 : decode cX8_tear 21 = .ok (.aload_n 0, 1) := by decide +kernel
theorem dd_X8_tear_22 : decode cX8_tear 22 = .ok (.bipush (-10), 2) := by decide +kernel
theorem dd_X8_tear_24 : decode cX8_tear 24 = .ok (.invokevirtual 81, 3) := by decide +kernel
theorem dd_X8_tear_27 : decode cX8_tear 27 = .ok (.ireturn, 1) := by decide +kernel
theorem dd_X8_tear_28 : decode cX8_tear 28 = .ok (.iconst 0, 1) := by decide +kernel
theorem dd_X8_tear_29 : decode cX8_tear 29 = .ok (.istore_n 3, 1) := by decide +kernel
theorem dd_X8_tear_30 : decode cX8_tear 30 = .ok (.iconst 0, 1) := by decide +kernel
theorem dd_X8_tear_31 : decode cX8_tear 31 = .ok (.istore 4, 2) := by decide +kernel
theorem dd_X8_tear_33 : decode cX8_tear 33 = .ok (.aload_n 0, 1) := by decide +kernel
theorem dd_X8_tear_34 : decode cX8_tear 34 = .ok (.invokevirtual 145, 3) := by decide +kernel
theorem dd_X8_tear_37 : decode cX8_tear 37 = .ok (.iconst 0, 1) := by decide +kernel
theorem dd_X8_tear_38 : decode cX8_tear 38 = .ok (.istore 5, 2) := by decide +kernel
theorem dd_X8_tear_40 : decode cX8_tear 40 = .ok (.iload 5, 2) := by decide +kernel
theorem dd_X8_tear_42 : decode cX8_tear 42 = .ok (.iconst 5, 1) := by decide +kernel
theorem dd_X8_tear_43 : decode cX8_tear 43 = .ok (.if_icmp .ge 82, 3) := by decide +kernel
theorem dd_X8_tear_46 : decode cX8_tear 46 = .ok (.aload_n 0, 1) := by decide +kernel
theorem dd_X8_tear_47 : decode cX8_tear 47 = .ok (.iload 5, 2) := by decide +kernel
theorem dd_X8_tear_49 : decode cX8_tear 49 = .ok (.iload_n 1, 1) := by decide +kernel
theorem dd_X8_tear_50 : decode cX8_tear 50 = .ok (.invokevirtual 138, 3) := by decide +kernel
theorem dd_X8_tear_53 : decode cX8_tear 53 = .ok (.iconst 3, 1) := by decide +kernel
theorem dd_X8_tear_54 : decode cX8_tear 54 = .ok (.if_icmp .ne 65, 3) := by decide +kernel
theorem dd_X8_tear_57 : decode cX8_tear 57 = .ok (.aload_n 0, 1) := by decide +kernel
theorem dd_X8_tear_58 : decode cX8_tear 58 = .ok (.getfield 123, 3) := by decide +kernel
theorem dd_X8_tear_61 : decode cX8_tear 61 = .ok (.aload_n 0, 1) := by decide +kernel
theorem dd_X8_tear_62 : decode cX8_tear 62 = .ok (.getfield 127, 3) := by decide +kernel
theorem dd_X8_tear_65 : decode cX8_tear 65 = .ok (.if_icmp .gt 7, 3) := by decide +kernel
theorem dd_X8_tear_68 : decode cX8_tear 68 = .ok (.iconst 1, 1) := by decide +kernel
theorem dd_X8_tear_69 : decode cX8_tear 69 = .ok (.goto 4, 3) := by decide +kernel
theorem dd_X8_tear_72 : decode cX8_tear 72 = .ok (.iconst 0, 1) := by decide +kernel
theorem dd_X8_tear_73 : decode cX8_tear 73 = .ok (.istore 6, 2) := by decide +kernel
theorem dd_X8_tear_75 : decode cX8_tear 75 = .ok (.iload_n 3, 1) := by decide +kernel
theorem dd_X8_tear_76 : decode cX8_tear 76 = .ok (.iload 6, 2) := by decide +kernel
theorem dd_X8_tear_78 : decode cX8_tear 78 = .ok (.iconst 1, 1) := by decide +kernel
theorem dd_X8_tear_79 : decode cX8_tear 79 = .ok (.if_icmp .ne 10, 3) := by decide +kernel
theorem dd_X8_tear_82 : decode cX8_tear 82 = .ok (.aload_n 0, 1) := by decide +kernel
theorem dd_X8_tear_83 : decode cX8_tear 83 = .ok (.getfield 123, 3) := by decide +kernel
theorem dd_X8_tear_86 : decode cX8_tear 86 = .ok (.goto 7, 3) := by decide +kernel
theorem dd_X8_tear_89 : decode cX8_tear 89 = .ok (.aload_n 0, 1) := by decide +kernel
theorem dd_X8_tear_90 : decode cX8_tear 90 = .ok (.getfield 127, 3) := by decide +kernel
theorem dd_X8_tear_93 : decode cX8_tear 93 = .ok (.iadd, 1) := by decide +kernel
theorem dd_X8_tear_94 : decode cX8_tear 94 = .ok (.istore_n 3, 1) := by decide +kernel
theorem dd_X8_tear_95 : decode cX8_tear 95 = .ok (.iload 4, 2) := by decide +kernel
theorem dd_X8_tear_97 : decode cX8_tear 97 = .ok (.iload_n 2, 1) := by decide +kernel
theorem dd_X8_tear_98 : decode cX8_tear 98 = .ok (.iconst (-1), 1) := by decide +kernel
theorem dd_X8_tear_99 : decode cX8_tear 99 = .ok (.if_icmp .ne 7, 3) := by decide +kernel
theorem dd_X8_tear_102 : decode cX8_tear 102 = .ok (.iconst 0, 1) := by decide +kernel
theorem dd_X8_tear_103 : decode cX8_tear 103 = .ok (.goto 13, 3) := by decide +kernel
theorem dd_X8_tear_106 : decode cX8_tear 106 = .ok (.aload_n 0, 1) := by decide +kernel
theorem dd_X8_tear_107 : decode cX8_tear 107 = .ok (.iload_n 2, 1) := by decide +kernel
theorem dd_X8_tear_108 : decode cX8_tear 108 = .ok (.iload 5, 2) := by decide +kernel
theorem dd_X8_tear_110 : decode cX8_tear 110 = .ok (.iload 6, 2) := by decide +kernel
theorem dd_X8_tear_112 : decode cX8_tear 112 = .ok (.iload_n 1, 1) := by decide +kernel
theorem dd_X8_tear_113 : decode cX8_tear 113 = .ok (.invokevirtual 150, 3) := by decide +kernel
theorem dd_X8_tear_116 : decode cX8_tear 116 = .ok (.ior, 1) := by decide +kernel
theorem dd_X8_tear_117 : decode cX8_tear 117 = .ok (.istore 4, 2) := by decide +kernel
theorem dd_X8_tear_119 : decode cX8_tear 119 = .ok (.iinc 5 1, 3) := by decide +kernel
theorem dd_X8_tear_122 : decode cX8_tear 122 = .ok (.goto (-82), 3) := by decide +kernel
theorem dd_X8_tear_125 : decode cX8_tear 125 = .ok (.iload_n 2, 1) := by decide +kernel
theorem dd_X8_tear_126 : decode cX8_tear 126 = .ok (.iconst (-1), 1) := by decide +kernel
theorem dd_X8_tear_127 : decode cX8_tear 127 = .ok (.if_icmp .ne 7, 3) := by decide +kernel
theorem dd_X8_tear_130 : decode cX8_tear 130 = .ok (.iload_n 3, 1) := by decide +kernel
theorem dd_X8_tear_131 : decode cX8_tear 131 = .ok (.goto 5, 3) := by decide +kernel
theorem dd_X8_tear_134 : decode cX8_tear 134 = .ok (.iload 4, 2) := by decide +kernel
theorem dd_X8_tear_136 : decode cX8_tear 136 = .ok (.ireturn, 1) := by decide +kernel
def tb_X8_tear (kd : Nat → Nat) (K : zK) : zTab := [(0, zt_iload 1 1), (1, zt_call kd sp_X8_isYear 1 4), (4, zt_if (fun x => x = 0) (fun x => ¬ x = 0) 21 7), (7, zt_iload 2 8), (8, zt_un (fun x => zL x.toInt64) 9), (9, zt_const (zL (-1)) 12), (12, zt_const (zL 5) 15), (15, zt_call kd sp_X8_in 3 18), (18, zt_if (fun x => ¬ x = 0) (fun x => x = 0) 28 21), (21, zt_aload 0 22), (22, zt_const (zI (-10)) 24), (24, zt_call kd sp_X8_bad 2 27), (27, zt_iret K), (28, zt_const (zI 0) 29), (29, zt_istore 3 30), (30, zt_const (zI 0) 31), (31, zt_istore 4 33), (33, zt_aload 0 34), (34, zt_call kd sp_X8_layHand 1 37), (37, zt_const (zI 0) 38), (38, zt_istore 5 40), (40, zt_iload 5 42), (42, zt_const (zI 5) 43), (43, zt_icmp (fun x y => y ≤ x) (fun x y => ¬ y ≤ x) 125 46), (46, zt_aload 0 47), (47, zt_iload 5 49), (49, zt_iload 1 50), (50, zt_call kd sp_X8_ruleOf 3 53), (53, zt_const (zI 3) 54), (54, zt_icmp (fun x y => ¬ x = y) (fun x y => x = y) 119 57), (57, zt_aload 0 58), (58, zt_getI kd 8 7 61), (61, zt_aload 0 62), (62, zt_getI kd 8 8 65), (65, zt_icmp (fun x y => y < x) (fun x y => ¬ y < x) 72 68), (68, zt_const (zI 1) 69), (69, zt_goto 73), (72, zt_const (zI 0) 73), (73, zt_istore 6 75), (75, zt_iload 3 76), (76, zt_iload 6 78), (78, zt_const (zI 1) 79), (79, zt_icmp (fun x y => ¬ x = y) (fun x y => x = y) 89 82), (82, zt_aload 0 83), (83, zt_getI kd 8 7 86), (86, zt_goto 93), (89, zt_aload 0 90), (90, zt_getI kd 8 8 93), (93, zt_bin (fun x y => x + y) 94), (94, zt_istore 3 95), (95, zt_iload 4 97), (97, zt_iload 2 98), (98, zt_const (zI (-1)) 99), (99, zt_icmp (fun x y => ¬ x = y) (fun x y => x = y) 106 102), (102, zt_const (zI 0) 103), (103, zt_goto 116), (106, zt_aload 0 107), (107, zt_iload 2 108), (108, zt_iload 5 110), (110, zt_iload 6 112), (112, zt_iload 1 113), (113, zt_call kd sp_X8_bindingOf 5 116), (116, zt_bin (fun x y => x ||| y) 117), (117, zt_istore 4 119), (119, zt_iinc 5 1 122), (122, zt_goto 40), (125, zt_iload 2 126), (126, zt_const (zI (-1)) 127), (127, zt_icmp (fun x y => ¬ x = y) (fun x y => x = y) 134 130), (130, zt_iload 3 131), (131, zt_goto 136), (134, zt_iload 4 136), (136, zt_iret K)]
set_option maxRecDepth 20000 in
theorem tk_X8_tear (d : Nat) (h_X8_isYear : zMS 2 yX8_isYear cX8_isYear 1 (some .boolean) sp_X8_isYear) (h_X8_in : zMS 1 yX8_in cX8_in 6 (some .boolean) sp_X8_in) (h_X8_bad : zMS 1 yX8_bad cX8_bad 2 (some .int) sp_X8_bad) (h_X8_layHand : zMS 1 yX8_layHand cX8_layHand 2 none sp_X8_layHand) (h_X8_ruleOf : zMS 7 yX8_ruleOf cX8_ruleOf 3 (some .int) sp_X8_ruleOf) (h_X8_bindingOf : zMS 6 yX8_bindingOf cX8_bindingOf 8 (some .int) sp_X8_bindingOf) : zTrue RX8 cX8_tear 7 (some .int) (d + 8) (fun kd K => tb_X8_tear kd K) := by
  intro p l e R s m args below meth c D cy A ad bl Qm K C0 hr hlocks hQ
  obtain ⟨hx, hb, hml, hown, hts, hK, hD, hA0, hN, hE, ⟨hR1, hR2⟩, hc1, hc2⟩ := id C0
  unfold tb_X8_tear
  refine List.forall_mem_cons.mpr ⟨ok_iload_n hx hb rfl dd_X8_tear_0, ?_⟩
  refine List.forall_mem_cons.mpr ⟨ok_callS (n := 1) C0 (h_X8_isYear (d + 7) (by omega)) (by decide) wd_995 wd_993 wd_994 wd_107 ⟨by decide +kernel, by decide +kernel, by decide +kernel⟩ dd_X8_tear_1, ?_⟩
  refine List.forall_mem_cons.mpr ⟨ok_if_eq hx hb dd_X8_tear_4 (by decide), ?_⟩
  refine List.forall_mem_cons.mpr ⟨ok_iload_n hx hb rfl dd_X8_tear_7, ?_⟩
  refine List.forall_mem_cons.mpr ⟨ok_i2l hx hb dd_X8_tear_8, ?_⟩
  refine List.forall_mem_cons.mpr ⟨ok_ldc2 hx hb hown (hts _ wd_1041) dd_X8_tear_9, ?_⟩
  refine List.forall_mem_cons.mpr ⟨ok_ldc2 hx hb hown (hts _ wd_925) dd_X8_tear_12, ?_⟩
  refine List.forall_mem_cons.mpr ⟨ok_callS (n := 3) C0 (h_X8_in (d + 7) (by omega)) (by decide) wd_928 wd_926 wd_927 wd_107 ⟨by decide +kernel, by decide +kernel, by decide +kernel⟩ dd_X8_tear_15, ?_⟩
  refine List.forall_mem_cons.mpr ⟨ok_if_ne hx hb dd_X8_tear_18 (by decide), ?_⟩
  refine List.forall_mem_cons.mpr ⟨ok_aload_n hx hb rfl dd_X8_tear_21, ?_⟩
  refine List.forall_mem_cons.mpr ⟨ok_bipush hx hb dd_X8_tear_22 (by decide), ?_⟩
  refine List.forall_mem_cons.mpr ⟨ok_callV (n := 1) zc_X8 rv_X8_bad C0 (h_X8_bad (d + 7) (by omega)) (by decide) wd_936 wd_933 wd_935 wd_62 wd_107 ⟨rfl, by decide +kernel, by decide +kernel, by decide +kernel⟩ dd_X8_tear_24, ?_⟩
  refine List.forall_mem_cons.mpr ⟨ok_iret hx hb hr hlocks hQ dd_X8_tear_27, ?_⟩
  refine List.forall_mem_cons.mpr ⟨ok_iconst hx hb dd_X8_tear_28 (by decide), ?_⟩
  refine List.forall_mem_cons.mpr ⟨ok_istore_n hx hb rfl dd_X8_tear_29, ?_⟩
  refine List.forall_mem_cons.mpr ⟨ok_iconst hx hb dd_X8_tear_30 (by decide), ?_⟩
  refine List.forall_mem_cons.mpr ⟨ok_istore hx hb dd_X8_tear_31, ?_⟩
  refine List.forall_mem_cons.mpr ⟨ok_aload_n hx hb rfl dd_X8_tear_33, ?_⟩
  refine List.forall_mem_cons.mpr ⟨ok_callV (n := 0) zc_X8 rv_X8_layHand C0 (h_X8_layHand (d + 7) (by omega)) (by decide) wd_1000 wd_997 wd_999 wd_67 wd_107 ⟨rfl, by decide +kernel, by decide +kernel, by decide +kernel⟩ dd_X8_tear_34, ?_⟩
  refine List.forall_mem_cons.mpr ⟨ok_iconst hx hb dd_X8_tear_37 (by decide), ?_⟩
  refine List.forall_mem_cons.mpr ⟨ok_istore hx hb dd_X8_tear_38, ?_⟩
  refine List.forall_mem_cons.mpr ⟨ok_iload hx hb dd_X8_tear_40, ?_⟩
  refine List.forall_mem_cons.mpr ⟨ok_iconst hx hb dd_X8_tear_42 (by decide), ?_⟩
  refine List.forall_mem_cons.mpr ⟨ok_icmp_ge hx hb dd_X8_tear_43 (by decide), ?_⟩
  refine List.forall_mem_cons.mpr ⟨ok_aload_n hx hb rfl dd_X8_tear_46, ?_⟩
  refine List.forall_mem_cons.mpr ⟨ok_iload hx hb dd_X8_tear_47, ?_⟩
  refine List.forall_mem_cons.mpr ⟨ok_iload_n hx hb rfl dd_X8_tear_49, ?_⟩
  refine List.forall_mem_cons.mpr ⟨ok_callV (n := 2) zc_X8 rv_X8_ruleOf C0 (h_X8_ruleOf (d + 7) (by omega)) (by decide) wd_1024 wd_1021 wd_1023 wd_72 wd_107 ⟨rfl, by decide +kernel, by decide +kernel, by decide +kernel⟩ dd_X8_tear_50, ?_⟩
  refine List.forall_mem_cons.mpr ⟨ok_iconst hx hb dd_X8_tear_53 (by decide), ?_⟩
  refine List.forall_mem_cons.mpr ⟨ok_icmp_ne hx hb dd_X8_tear_54 (by decide), ?_⟩
  refine List.forall_mem_cons.mpr ⟨ok_aload_n hx hb rfl dd_X8_tear_57, ?_⟩
  refine List.forall_mem_cons.mpr ⟨ok_getI (j := 7) hx hb hts zi_X8 hown hK zc_X8 (by decide) rfl (fun t fl h => by cases h; rfl) (hts _ wd_847) dd_X8_tear_58, ?_⟩
  refine List.forall_mem_cons.mpr ⟨ok_aload_n hx hb rfl dd_X8_tear_61, ?_⟩
  refine List.forall_mem_cons.mpr ⟨ok_getI (j := 8) hx hb hts zi_X8 hown hK zc_X8 (by decide) rfl (fun t fl h => by cases h; rfl) (hts _ wd_848) dd_X8_tear_62, ?_⟩
  refine List.forall_mem_cons.mpr ⟨ok_icmp_gt hx hb dd_X8_tear_65 (by decide), ?_⟩
  refine List.forall_mem_cons.mpr ⟨ok_iconst hx hb dd_X8_tear_68 (by decide), ?_⟩
  refine List.forall_mem_cons.mpr ⟨ok_goto hx hb dd_X8_tear_69 (by decide), ?_⟩
  refine List.forall_mem_cons.mpr ⟨ok_iconst hx hb dd_X8_tear_72 (by decide), ?_⟩
  refine List.forall_mem_cons.mpr ⟨ok_istore hx hb dd_X8_tear_73, ?_⟩
  refine List.forall_mem_cons.mpr ⟨ok_iload_n hx hb rfl dd_X8_tear_75, ?_⟩
  refine List.forall_mem_cons.mpr ⟨ok_iload hx hb dd_X8_tear_76, ?_⟩
  refine List.forall_mem_cons.mpr ⟨ok_iconst hx hb dd_X8_tear_78 (by decide), ?_⟩
  refine List.forall_mem_cons.mpr ⟨ok_icmp_ne hx hb dd_X8_tear_79 (by decide), ?_⟩
  refine List.forall_mem_cons.mpr ⟨ok_aload_n hx hb rfl dd_X8_tear_82, ?_⟩
  refine List.forall_mem_cons.mpr ⟨ok_getI (j := 7) hx hb hts zi_X8 hown hK zc_X8 (by decide) rfl (fun t fl h => by cases h; rfl) (hts _ wd_847) dd_X8_tear_83, ?_⟩
  refine List.forall_mem_cons.mpr ⟨ok_goto hx hb dd_X8_tear_86 (by decide), ?_⟩
  refine List.forall_mem_cons.mpr ⟨ok_aload_n hx hb rfl dd_X8_tear_89, ?_⟩
  refine List.forall_mem_cons.mpr ⟨ok_getI (j := 8) hx hb hts zi_X8 hown hK zc_X8 (by decide) rfl (fun t fl h => by cases h; rfl) (hts _ wd_848) dd_X8_tear_90, ?_⟩
  refine List.forall_mem_cons.mpr ⟨ok_iadd hx hb dd_X8_tear_93, ?_⟩
  refine List.forall_mem_cons.mpr ⟨ok_istore_n hx hb rfl dd_X8_tear_94, ?_⟩
  refine List.forall_mem_cons.mpr ⟨ok_iload hx hb dd_X8_tear_95, ?_⟩
  refine List.forall_mem_cons.mpr ⟨ok_iload_n hx hb rfl dd_X8_tear_97, ?_⟩
  refine List.forall_mem_cons.mpr ⟨ok_iconst hx hb dd_X8_tear_98 (by decide), ?_⟩
  refine List.forall_mem_cons.mpr ⟨ok_icmp_ne hx hb dd_X8_tear_99 (by decide), ?_⟩
  refine List.forall_mem_cons.mpr ⟨ok_iconst hx hb dd_X8_tear_102 (by decide), ?_⟩
  refine List.forall_mem_cons.mpr ⟨ok_goto hx hb dd_X8_tear_103 (by decide), ?_⟩
  refine List.forall_mem_cons.mpr ⟨ok_aload_n hx hb rfl dd_X8_tear_106, ?_⟩
  refine List.forall_mem_cons.mpr ⟨ok_iload_n hx hb rfl dd_X8_tear_107, ?_⟩
  refine List.forall_mem_cons.mpr ⟨ok_iload hx hb dd_X8_tear_108, ?_⟩
  refine List.forall_mem_cons.mpr ⟨ok_iload hx hb dd_X8_tear_110, ?_⟩
  refine List.forall_mem_cons.mpr ⟨ok_iload_n hx hb rfl dd_X8_tear_112, ?_⟩
  refine List.forall_mem_cons.mpr ⟨ok_callV (n := 4) zc_X8 rv_X8_bindingOf C0 (h_X8_bindingOf (d + 7) (by omega)) (by decide) wd_1045 wd_1042 wd_1044 wd_74 wd_107 ⟨rfl, by decide +kernel, by decide +kernel, by decide +kernel⟩ dd_X8_tear_113, ?_⟩
  refine List.forall_mem_cons.mpr ⟨ok_ior hx hb dd_X8_tear_116, ?_⟩
  refine List.forall_mem_cons.mpr ⟨ok_istore hx hb dd_X8_tear_117, ?_⟩
  refine List.forall_mem_cons.mpr ⟨ok_iinc hx hb dd_X8_tear_119 (by decide), ?_⟩
  refine List.forall_mem_cons.mpr ⟨ok_goto hx hb dd_X8_tear_122 (by decide), ?_⟩
  refine List.forall_mem_cons.mpr ⟨ok_iload_n hx hb rfl dd_X8_tear_125, ?_⟩
  refine List.forall_mem_cons.mpr ⟨ok_iconst hx hb dd_X8_tear_126 (by decide), ?_⟩
  refine List.forall_mem_cons.mpr ⟨ok_icmp_ne hx hb dd_X8_tear_127 (by decide), ?_⟩
  refine List.forall_mem_cons.mpr ⟨ok_iload_n hx hb rfl dd_X8_tear_130, ?_⟩
  refine List.forall_mem_cons.mpr ⟨ok_goto hx hb dd_X8_tear_131 (by decide), ?_⟩
  refine List.forall_mem_cons.mpr ⟨ok_iload hx hb dd_X8_tear_134, ?_⟩
  refine List.forall_mem_cons.mpr ⟨ok_iret hx hb hr hlocks hQ dd_X8_tear_136, ?_⟩
  exact fun _ h => absurd h List.not_mem_nil
set_option maxRecDepth 100000 in
theorem vc_X8_tear_0 {kd : Nat → Nat} {K : zK} {X : zX} (hX : ∀ (n pc : Nat) (ls : zLS) (st : List zV) (M : zM), zrun (tb_X8_tear kd K) [(40, [6])] n X pc ls st M → X pc ls st M) {y : Int32} {c : Int32} {M : zM} (hk0 : kd 9 = 8) (h : ∀ v1 : Int32, (v1 = zp (isY y.toInt)) → ((v1 = 0) → ∀ v2 : Int32, (v2 = (-10 : Int32)) → ∀ M2 : zM, (M2 = zmw M 9 4 (upd (M.1 9 4) 0 (M.1 9 4 0 + 1))) → K (some (zI (v2))) M2) ∧ ((¬ v1 = 0) → ∀ v3 : Int32, (v3 = zp ((-1 : Int64).toInt ≤ c.toInt64.toInt ∧ c.toInt64.toInt ≤ (5 : Int64).toInt)) → ((¬ v3 = 0) → ∀ f4 : Nat → Int32, (∀ j9, j9 < 127 → f4 j9 = M.1 9 1 j9) → ∀ M4 : zM, (M4 = zmw M 9 5 f4) → X 40 [some (zR 9 0), some (zI (y)), some (zI (c)), some (zI ((0 : Int32))), some (zI ((0 : Int32))), some (zI ((0 : Int32))), none] [] M4) ∧ ((v3 = 0) → ∀ v5 : Int32, (v5 = (-10 : Int32)) → ∀ M5 : zM, (M5 = zmw M 9 4 (upd (M.1 9 4) 0 (M.1 9 4 0 + 1))) → K (some (zI (v5))) M5))) : X 0 [some (zR 9 0), some (zI (y)), some (zI (c)), none, none, none, none] [] M := hX 19 0 _ [] M (show ∀ v1 : Int32, (v1 = zp (isY y.toInt)) → ((v1 = 0) → (kd 9 = 8) ∧ ∀ v2 : Int32, (v2 = (-10 : Int32)) → ∀ M2 : zM, (M2 = zmw M 9 4 (upd (M.1 9 4) 0 (M.1 9 4 0 + 1))) → K (some (zI (v2))) M2) ∧ ((¬ v1 = 0) → ∀ v3 : Int32, (v3 = zp ((-1 : Int64).toInt ≤ c.toInt64.toInt ∧ c.toInt64.toInt ≤ (5 : Int64).toInt)) → ((¬ v3 = 0) → (kd 9 = 8) ∧ ∀ f4 : Nat → Int32, (∀ j9, j9 < 127 → f4 j9 = M.1 9 1 j9) → ∀ M4 : zM, (M4 = zmw M 9 5 f4) → X 40 [some (zR 9 0), some (zI (y)), some (zI (c)), some (zI ((0 : Int32))), some (zI ((0 : Int32))), some (zI ((0 : Int32))), none] [] M4) ∧ ((v3 = 0) → (kd 9 = 8) ∧ ∀ v5 : Int32, (v5 = (-10 : Int32)) → ∀ M5 : zM, (M5 = zmw M 9 4 (upd (M.1 9 4) 0 (M.1 9 4 0 + 1))) → K (some (zI (v5))) M5)) from fun v1 => have h := h v1; fun q => have h := h q; ⟨fun q => have h := h.1 q; ⟨hk0, fun v2 => have h := h v2; fun q => have h := h q; fun M2 => have h := h M2; fun q => have h := h q; h⟩, fun q => have h := h.2 q; fun v3 => have h := h v3; fun q => have h := h q; ⟨fun q => have h := h.1 q; ⟨hk0, fun f4 => have h := h f4; fun q => have h := h q; fun M4 => have h := h M4; fun q => have h := h q; h⟩, fun q => have h := h.2 q; ⟨hk0, fun v5 => have h := h v5; fun q => have h := h q; fun M5 => have h := h M5; fun q => have h := h q; h⟩⟩⟩)
set_option maxRecDepth 100000 in
theorem vc_X8_tear_40 {kd : Nat → Nat} {K : zK} {X : zX} (hX : ∀ (n pc : Nat) (ls : zLS) (st : List zV) (M : zM), zrun (tb_X8_tear kd K) [(40, [6])] n X pc ls st M → X pc ls st M) {y : Int32} {c : Int32} {n : Int32} {w : Int32} {g : Int32} {M : zM} (hk0 : kd 9 = 8) (h : (((5 : Int32) ≤ g) → ((¬ c = (-1 : Int32)) → K (some (zI (w))) M) ∧ ((c = (-1 : Int32)) → K (some (zI (n))) M)) ∧ ((¬ (5 : Int32) ≤ g) → ∃ a1 : Sk, (RpF (M.1 9 5) a1) ∧ (0 ≤ y.toInt ∧ y.toInt < 1000000) ∧ ∀ v1 : Int32, (v1.toInt = sk_law a1 g.toInt y.toInt) → ∀ f1 : Nat → Int32, ((f1 7).toInt = sk_N a1 g.toInt 1 y.toInt ∧ (f1 8).toInt = sk_N a1 g.toInt 0 y.toInt ∧ ∀ j9, j9 ≠ 7 → j9 ≠ 8 → f1 j9 = M.1 9 0 j9) → ∀ M1 : zM, (M1 = zmw M 9 0 f1) → ((¬ v1 = (3 : Int32)) → X 40 [some (zR 9 0), some (zI (y)), some (zI (c)), some (zI (n)), some (zI (w)), some (zI (g + 1)), none] [] M1) ∧ ((v1 = (3 : Int32)) → (((M1.1 9 0 8) < (M1.1 9 0 7)) → ((¬ c = (-1 : Int32)) → ∃ a2 : Sk, (RpF (M1.1 9 5) a2) ∧ (isC c.toInt) ∧ (0 ≤ y.toInt ∧ y.toInt < 1000000) ∧ ∀ v2 : Int32, (v2.toInt = sk_bo a2 c.toInt g.toInt (0 : Int32).toInt y.toInt) → X 40 [some (zR 9 0), some (zI (y)), some (zI (c)), some (zI (n + (M1.1 9 0 8))), some (zI (w ||| v2)), some (zI (g + 1)), none] [] M1) ∧ ((c = (-1 : Int32)) → X 40 [some (zR 9 0), some (zI (y)), some (zI (c)), some (zI (n + (M1.1 9 0 8))), some (zI (w ||| (0 : Int32))), some (zI (g + 1)), none] [] M1)) ∧ ((¬ (M1.1 9 0 8) < (M1.1 9 0 7)) → ((¬ c = (-1 : Int32)) → ∃ a5 : Sk, (RpF (M1.1 9 5) a5) ∧ (isC c.toInt) ∧ (0 ≤ y.toInt ∧ y.toInt < 1000000) ∧ ∀ v5 : Int32, (v5.toInt = sk_bo a5 c.toInt g.toInt (1 : Int32).toInt y.toInt) → X 40 [some (zR 9 0), some (zI (y)), some (zI (c)), some (zI (n + (M1.1 9 0 7))), some (zI (w ||| v5)), some (zI (g + 1)), none] [] M1) ∧ ((c = (-1 : Int32)) → X 40 [some (zR 9 0), some (zI (y)), some (zI (c)), some (zI (n + (M1.1 9 0 7))), some (zI (w ||| (0 : Int32))), some (zI (g + 1)), none] [] M1))))) : X 40 [some (zR 9 0), some (zI (y)), some (zI (c)), some (zI (n)), some (zI (w)), some (zI (g)), none] [] M := hX 42 40 _ [] M (show (((5 : Int32) ≤ g) → ((¬ c = (-1 : Int32)) → K (some (zI (w))) M) ∧ ((c = (-1 : Int32)) → K (some (zI (n))) M)) ∧ ((¬ (5 : Int32) ≤ g) → (kd 9 = 8) ∧ ∃ a1 : Sk, (RpF (M.1 9 5) a1) ∧ (0 ≤ y.toInt ∧ y.toInt < 1000000) ∧ ∀ v1 : Int32, (v1.toInt = sk_law a1 g.toInt y.toInt) → ∀ f1 : Nat → Int32, ((f1 7).toInt = sk_N a1 g.toInt 1 y.toInt ∧ (f1 8).toInt = sk_N a1 g.toInt 0 y.toInt ∧ ∀ j9, j9 ≠ 7 → j9 ≠ 8 → f1 j9 = M.1 9 0 j9) → ∀ M1 : zM, (M1 = zmw M 9 0 f1) → ((¬ v1 = (3 : Int32)) → X 40 [some (zR 9 0), some (zI (y)), some (zI (c)), some (zI (n)), some (zI (w)), some (zI (g + 1)), none] [] M1) ∧ ((v1 = (3 : Int32)) → (kd 9 = 8) ∧ (kd 9 = 8) ∧ (((M1.1 9 0 8) < (M1.1 9 0 7)) → ((¬ (0 : Int32) = (1 : Int32)) → (kd 9 = 8) ∧ ((¬ c = (-1 : Int32)) → (kd 9 = 8) ∧ ∃ a2 : Sk, (RpF (M1.1 9 5) a2) ∧ (isC c.toInt) ∧ (0 ≤ y.toInt ∧ y.toInt < 1000000) ∧ ∀ v2 : Int32, (v2.toInt = sk_bo a2 c.toInt g.toInt (0 : Int32).toInt y.toInt) → X 40 [some (zR 9 0), some (zI (y)), some (zI (c)), some (zI (n + (M1.1 9 0 8))), some (zI (w ||| v2)), some (zI (g + 1)), none] [] M1) ∧ ((c = (-1 : Int32)) → X 40 [some (zR 9 0), some (zI (y)), some (zI (c)), some (zI (n + (M1.1 9 0 8))), some (zI (w ||| (0 : Int32))), some (zI (g + 1)), none] [] M1)) ∧ (((0 : Int32) = (1 : Int32)) → (kd 9 = 8) ∧ ((¬ c = (-1 : Int32)) → (kd 9 = 8) ∧ ∃ a3 : Sk, (RpF (M1.1 9 5) a3) ∧ (isC c.toInt) ∧ (0 ≤ y.toInt ∧ y.toInt < 1000000) ∧ ∀ v3 : Int32, (v3.toInt = sk_bo a3 c.toInt g.toInt (0 : Int32).toInt y.toInt) → X 40 [some (zR 9 0), some (zI (y)), some (zI (c)), some (zI (n + (M1.1 9 0 7))), some (zI (w ||| v3)), some (zI (g + 1)), none] [] M1) ∧ ((c = (-1 : Int32)) → X 40 [some (zR 9 0), some (zI (y)), some (zI (c)), some (zI (n + (M1.1 9 0 7))), some (zI (w ||| (0 : Int32))), some (zI (g + 1)), none] [] M1))) ∧ ((¬ (M1.1 9 0 8) < (M1.1 9 0 7)) → ((¬ (1 : Int32) = (1 : Int32)) → (kd 9 = 8) ∧ ((¬ c = (-1 : Int32)) → (kd 9 = 8) ∧ ∃ a4 : Sk, (RpF (M1.1 9 5) a4) ∧ (isC c.toInt) ∧ (0 ≤ y.toInt ∧ y.toInt < 1000000) ∧ ∀ v4 : Int32, (v4.toInt = sk_bo a4 c.toInt g.toInt (1 : Int32).toInt y.toInt) → X 40 [some (zR 9 0), some (zI (y)), some (zI (c)), some (zI (n + (M1.1 9 0 8))), some (zI (w ||| v4)), some (zI (g + 1)), none] [] M1) ∧ ((c = (-1 : Int32)) → X 40 [some (zR 9 0), some (zI (y)), some (zI (c)), some (zI (n + (M1.1 9 0 8))), some (zI (w ||| (0 : Int32))), some (zI (g + 1)), none] [] M1)) ∧ (((1 : Int32) = (1 : Int32)) → (kd 9 = 8) ∧ ((¬ c = (-1 : Int32)) → (kd 9 = 8) ∧ ∃ a5 : Sk, (RpF (M1.1 9 5) a5) ∧ (isC c.toInt) ∧ (0 ≤ y.toInt ∧ y.toInt < 1000000) ∧ ∀ v5 : Int32, (v5.toInt = sk_bo a5 c.toInt g.toInt (1 : Int32).toInt y.toInt) → X 40 [some (zR 9 0), some (zI (y)), some (zI (c)), some (zI (n + (M1.1 9 0 7))), some (zI (w ||| v5)), some (zI (g + 1)), none] [] M1) ∧ ((c = (-1 : Int32)) → X 40 [some (zR 9 0), some (zI (y)), some (zI (c)), some (zI (n + (M1.1 9 0 7))), some (zI (w ||| (0 : Int32))), some (zI (g + 1)), none] [] M1))))) from ⟨fun q => have h := h.1 q; ⟨fun q => have h := h.1 q; h, fun q => have h := h.2 q; h⟩, fun q => have h := h.2 q; ⟨hk0, h.elim (fun a1 h => ⟨a1, ⟨h.1, have h := h.2; ⟨h.1, have h := h.2; fun v1 => have h := h v1; fun q => have h := h q; fun f1 => have h := h f1; fun q => have h := h q; fun M1 => have h := h M1; fun q => have h := h q; ⟨fun q => have h := h.1 q; h, fun q => have h := h.2 q; ⟨hk0, ⟨hk0, ⟨fun q => have h := h.1 q; ⟨fun _ => ⟨hk0, ⟨fun q => have h := h.1 q; ⟨hk0, h.elim (fun a2 h => ⟨a2, ⟨h.1, have h := h.2; ⟨h.1, have h := h.2; ⟨h.1, have h := h.2; fun v2 => have h := h v2; fun q => have h := h q; h⟩⟩⟩⟩)⟩, fun q => have h := h.2 q; h⟩⟩, fun q => absurd q (by decide)⟩, fun q => have h := h.2 q; ⟨fun q => absurd q (by decide), fun _ => ⟨hk0, ⟨fun q => have h := h.1 q; ⟨hk0, h.elim (fun a5 h => ⟨a5, ⟨h.1, have h := h.2; ⟨h.1, have h := h.2; ⟨h.1, have h := h.2; fun v5 => have h := h v5; fun q => have h := h q; h⟩⟩⟩⟩)⟩, fun q => have h := h.2 q; h⟩⟩⟩⟩⟩⟩⟩⟩⟩⟩)⟩⟩)
def sp_X8_canBe : zSpec := fun kd as M K => match as with
  | [.inr (.inr (.inl (9, 0))), .inl c, .inl i, .inl k] => (kd 9 = 8) ∧ ∃ s : St, (RpM M s) ∧ (RpF (M.1 9 5) s.1.1) ∧ ∃ l : Ly, (sk_at s.1.1 c.toInt i.toInt = some l) ∧ ∀ v : Int32, (v = zp (s.1.2.2.all (seOk k.toInt l (sk_at s.1.1 c.toInt (i.toInt + 1)) c.toInt i.toInt) = true)) → K (some (.inl v)) M
  | _ => False
theorem rv_X8_canBe : zrv sp_X8_canBe 8 3 := by
  intro kd as M K h
  unfold sp_X8_canBe at h
  split at h
  · exact ⟨_, _, rfl, h.1⟩
  · exact h.elim
theorem dd_X8_canBe_0 : decode cX8_canBe 0 = .ok (.iconst 1, 1) := by decide +kernel
theorem dd_X8_canBe_1 : decode cX8_canBe 1 = .ok (.istore 4, 2) := by decide +kernel
theorem dd_X8_canBe_3 : decode cX8_canBe 3 = .ok (.iconst 0, 1) := by decide +kernel
theorem dd_X8_canBe_4 : decode cX8_canBe 4 = .ok (.istore 5, 2) := by decide +kernel
theorem dd_X8_canBe_6 : decode cX8_canBe 6 = .ok (.iload 5, 2) := by decide +kernel
theorem dd_X8_canBe_8 : decode cX8_canBe 8 = .ok (.aload_n 0, 1) := by decide +kernel
theorem dd_X8_canBe_9 : decode cX8_canBe 9 = .ok (.getfield 7, 3) := by decide +kernel
theorem dd_X8_canBe_12 : decode cX8_canBe 12 = .ok (.bipush 127, 2) := by decide +kernel
theorem dd_X8_canBe_14 : decode cX8_canBe 14 = .ok (.iaload, 1) := by decide +kernel
theorem dd_X8_canBe_15 : decode cX8_canBe 15 = .ok (.if_icmp .ge 104, 3) := by decide +kernel
theorem dd_X8_canBe_18 : decode cX8_canBe 18 = .ok (.sipush 129, 3) := by decide +kernel
theorem dd_X8_canBe_21 : decode cX8_canBe 21 = .ok (.iconst 4, 1) := by decide +kernel
theorem dd_X8_canBe_22 : decode cX8_canBe 22 = .ok (.iload 5, 2) := by decide +kernel
theorem dd_X8_canBe_24 : decode cX8_canBe 24 = .ok (.imul, 1) := by decide +kernel
theorem dd_X8_canBe_25 : decode cX8_canBe 25 = .ok (.iadd, 1) := by decide +kernel
theorem dd_X8_canBe_26 : decode cX8_canBe 26 = .ok (.istore 6, 2) := by decide +kernel
theorem dd_X8_canBe_28 : decode cX8_canBe 28 = .ok (.aload_n 0, 1) := by decide +kernel
theorem dd_X8_canBe_29 : decode cX8_canBe 29 = .ok (.getfield 7, 3) := by decide +kernel
theorem dd_X8_canBe_32 : decode cX8_canBe 32 = .ok (.iload 6, 2) := by decide +kernel
theorem dd_X8_canBe_34 : decode cX8_canBe 34 = .ok (.iaload, 1) := by decide +kernel
theorem dd_X8_canBe_35 : decode cX8_canBe 35 = .ok (.iload_n 1, 1) := by decide +kernel
theorem dd_X8_canBe_36 : decode cX8_canBe 36 = .ok (.if_icmp .ne 20, 3) := by decide +kernel
theorem dd_X8_canBe_39 : decode cX8_canBe 39 = .ok (.aload_n 0, 1) := by decide +kernel
theorem dd_X8_canBe_40 : decode cX8_canBe 40 = .ok (.getfield 7, 3) := by decide +kernel
theorem dd_X8_canBe_43 : decode cX8_canBe 43 = .ok (.iload 6, 2) := by decide +kernel
theorem dd_X8_canBe_45 : decode cX8_canBe 45 = .ok (.iconst 1, 1) := by decide +kernel
theorem dd_X8_canBe_46 : decode cX8_canBe 46 = .ok (.iadd, 1) := by decide +kernel
theorem dd_X8_canBe_47 : decode cX8_canBe 47 = .ok (.iaload, 1) := by decide +kernel
theorem dd_X8_canBe_48 : decode cX8_canBe 48 = .ok (.iload_n 2, 1) := by decide +kernel
theorem dd_X8_canBe_49 : decode cX8_canBe 49 = .ok (.if_icmp .ne 7, 3) := by decide +kernel
theorem dd_X8_canBe_52 : decode cX8_canBe 52 = .ok (.iconst 1, 1) := by decide +kernel
theorem dd_X8_canBe_53 : decode cX8_canBe 53 = .ok (.goto 4, 3) := by decide +kernel
theorem dd_X8_canBe_56 : decode cX8_canBe 56 = .ok (.iconst 0, 1) := by decide +kernel
theorem dd_X8_canBe_57 : decode cX8_canBe 57 = .ok (.istore 7, 2) := by decide +kernel
theorem dd_X8_canBe_59 : decode cX8_canBe 59 = .ok (.iload 4, 2) := by decide +kernel
theorem dd_X8_canBe_61 : decode cX8_canBe 61 = .ok (.ifCond .eq 49, 3) := by decide +kernel
theorem dd_X8_canBe_64 : decode cX8_canBe 64 = .ok (.iload 7, 2) := by decide +kernel
theorem dd_X8_canBe_66 : decode cX8_canBe 66 = .ok (.ifCond .eq 40, 3) := by decide +kernel
theorem dd_X8_canBe_69 : decode cX8_canBe 69 = .ok (.aload_n 0, 1) := by decide +kernel
theorem dd_X8_canBe_70 : decode cX8_canBe 70 = .ok (.iload_n 1, 1) := by decide +kernel
theorem dd_X8_canBe_71 : decode cX8_canBe 71 = .ok (.iload_n 2, 1) := by decide +kernel
theorem dd_X8_canBe_72 : decode cX8_canBe 72 = .ok (.aload_n 0, 1) := by decide +kernel
theorem dd_X8_canBe_73 : decode cX8_canBe 73 = .ok (.getfield 7, 3) := by decide +kernel
theorem dd_X8_canBe_76 : decode cX8_canBe 76 = .ok (.iload 6, 2) := by decide +kernel
theorem dd_X8_canBe_78 : decode cX8_canBe 78 = .ok (.iconst 2, 1) := by decide +kernel
theorem dd_X8_canBe_79 : decode cX8_canBe 79 = .ok (.iadd, 1) := by decide +kernel
theorem dd_X8_canBe_80 : decode cX8_canBe 80 = .ok (.iaload, 1) := by decide +kernel
theorem dd_X8_canBe_81 : decode cX8_canBe 81 = .ok (.iload_n 3, 1) := by decide +kernel
theorem dd_X8_canBe_82 : decode cX8_canBe 82 = .ok (.invokevirtual 119, 3) := by decide +kernel
theorem dd_X8_canBe_85 : decode cX8_canBe 85 = .ok (.aload_n 0, 1) := by decide +kernel
theorem dd_X8_canBe_86 : decode cX8_canBe 86 = .ok (.getfield 7, 3) := by decide +kernel
theorem dd_X8_canBe_89 : decode cX8_canBe 89 = .ok (.iload 6, 2) := by decide +kernel
theorem dd_X8_canBe_91 : decode cX8_canBe 91 = .ok (.iconst 3, 1) := by decide +kernel
theorem dd_X8_canBe_92 : decode cX8_canBe 92 = .ok (.iadd, 1) := by decide +kernel
theorem dd_X8_canBe_93 : decode cX8_canBe 93 = .ok (.iaload, 1) := by decide +kernel
theorem dd_X8_canBe_94 : decode cX8_canBe 94 = .ok (.iconst 1, 1) := by decide +kernel
theorem dd_X8_canBe_95 : decode cX8_canBe 95 = .ok (.if_icmp .ne 7, 3) := by decide +kernel
theorem dd_X8_canBe_98 : decode cX8_canBe 98 = .ok (.iconst 1, 1) := by decide +kernel
theorem dd_X8_canBe_99 : decode cX8_canBe 99 = .ok (.goto 4, 3) := by decide +kernel
theorem dd_X8_canBe_102 : decode cX8_canBe 102 = .ok (.iconst 0, 1) := by decide +kernel
theorem dd_X8_canBe_103 : decode cX8_canBe 103 = .ok (.if_icmp .ne 7, 3) := by decide +kernel
theorem dd_X8_canBe_106 : decode cX8_canBe 106 = .ok (.iconst 1, 1) := by decide +kernel
theorem dd_X8_canBe_107 : decode cX8_canBe 107 = .ok (.goto 4, 3) := by decide +kernel
theorem dd_X8_canBe_110 : decode cX8_canBe 110 = .ok (.iconst 0, 1) := by decide +kernel
theorem dd_X8_canBe_111 : decode cX8_canBe 111 = .ok (.istore 4, 2) := by decide +kernel
theorem dd_X8_canBe_113 : decode cX8_canBe 113 = .ok (.iinc 5 1, 3) := by decide +kernel
theorem dd_X8_canBe_116 : decode cX8_canBe 116 = .ok (.goto (-110), 3) := by decide +kernel
theorem dd_X8_canBe_119 : decode cX8_canBe 119 = .ok (.iload 4, 2) := by decide +kernel
theorem dd_X8_canBe_121 : decode cX8_canBe 121 = .ok (.ireturn, 1) := by decide +kernel
def tb_X8_canBe (kd : Nat → Nat) (K : zK) : zTab := [(0, zt_const (zI 1) 1), (1, zt_istore 4 3), (3, zt_const (zI 0) 4), (4, zt_istore 5 6), (6, zt_iload 5 8), (8, zt_aload 0 9), (9, zt_getR kd 8 0 1 12), (12, zt_const (zI 127) 14), (14, zt_ald kd 0 15), (15, zt_icmp (fun x y => y ≤ x) (fun x y => ¬ y ≤ x) 119 18), (18, zt_const (zI 129) 21), (21, zt_const (zI 4) 22), (22, zt_iload 5 24), (24, zt_bin (fun x y => x * y) 25), (25, zt_bin (fun x y => x + y) 26), (26, zt_istore 6 28), (28, zt_aload 0 29), (29, zt_getR kd 8 0 1 32), (32, zt_iload 6 34), (34, zt_ald kd 0 35), (35, zt_iload 1 36), (36, zt_icmp (fun x y => ¬ x = y) (fun x y => x = y) 56 39), (39, zt_aload 0 40), (40, zt_getR kd 8 0 1 43), (43, zt_iload 6 45), (45, zt_const (zI 1) 46), (46, zt_bin (fun x y => x + y) 47), (47, zt_ald kd 0 48), (48, zt_iload 2 49), (49, zt_icmp (fun x y => ¬ x = y) (fun x y => x = y) 56 52), (52, zt_const (zI 1) 53), (53, zt_goto 57), (56, zt_const (zI 0) 57), (57, zt_istore 7 59), (59, zt_iload 4 61), (61, zt_if (fun x => x = 0) (fun x => ¬ x = 0) 110 64), (64, zt_iload 7 66), (66, zt_if (fun x => x = 0) (fun x => ¬ x = 0) 106 69), (69, zt_aload 0 70), (70, zt_iload 1 71), (71, zt_iload 2 72), (72, zt_aload 0 73), (73, zt_getR kd 8 0 1 76), (76, zt_iload 6 78), (78, zt_const (zI 2) 79), (79, zt_bin (fun x y => x + y) 80), (80, zt_ald kd 0 81), (81, zt_iload 3 82), (82, zt_call kd sp_X8_bindsAs 5 85), (85, zt_aload 0 86), (86, zt_getR kd 8 0 1 89), (89, zt_iload 6 91), (91, zt_const (zI 3) 92), (92, zt_bin (fun x y => x + y) 93), (93, zt_ald kd 0 94), (94, zt_const (zI 1) 95), (95, zt_icmp (fun x y => ¬ x = y) (fun x y => x = y) 102 98), (98, zt_const (zI 1) 99), (99, zt_goto 103), (102, zt_const (zI 0) 103), (103, zt_icmp (fun x y => ¬ x = y) (fun x y => x = y) 110 106), (106, zt_const (zI 1) 107), (107, zt_goto 111), (110, zt_const (zI 0) 111), (111, zt_istore 4 113), (113, zt_iinc 5 1 116), (116, zt_goto 6), (119, zt_iload 4 121), (121, zt_zret K)]
set_option maxRecDepth 20000 in
theorem tk_X8_canBe (d : Nat) (h_X8_bindsAs : zMS 4 yX8_bindsAs cX8_bindsAs 9 (some .boolean) sp_X8_bindsAs) : zTrue RX8 cX8_canBe 8 (some .boolean) (d + 5) (fun kd K => tb_X8_canBe kd K) := by
  intro p l e R s m args below meth c D cy A ad bl Qm K C0 hr hlocks hQ
  obtain ⟨hx, hb, hml, hown, hts, hK, hD, hA0, hN, hE, ⟨hR1, hR2⟩, hc1, hc2⟩ := id C0
  unfold tb_X8_canBe
  refine List.forall_mem_cons.mpr ⟨ok_iconst hx hb dd_X8_canBe_0 (by decide), ?_⟩
  refine List.forall_mem_cons.mpr ⟨ok_istore hx hb dd_X8_canBe_1, ?_⟩
  refine List.forall_mem_cons.mpr ⟨ok_iconst hx hb dd_X8_canBe_3 (by decide), ?_⟩
  refine List.forall_mem_cons.mpr ⟨ok_istore hx hb dd_X8_canBe_4, ?_⟩
  refine List.forall_mem_cons.mpr ⟨ok_iload hx hb dd_X8_canBe_6, ?_⟩
  refine List.forall_mem_cons.mpr ⟨ok_aload_n hx hb rfl dd_X8_canBe_8, ?_⟩
  refine List.forall_mem_cons.mpr ⟨ok_getR (j := 0) hx hb hts zi_X8 hown hK zc_X8 (by decide) rfl (fun t fl h => by cases h; rfl) (hts _ wd_840) dd_X8_canBe_9, ?_⟩
  refine List.forall_mem_cons.mpr ⟨ok_bipush hx hb dd_X8_canBe_12 (by decide), ?_⟩
  refine List.forall_mem_cons.mpr ⟨ok_ald (ty := 0) rfl hx hb hK (Or.inl ⟨rfl, rfl, dd_X8_canBe_14⟩), ?_⟩
  refine List.forall_mem_cons.mpr ⟨ok_icmp_ge hx hb dd_X8_canBe_15 (by decide), ?_⟩
  refine List.forall_mem_cons.mpr ⟨ok_sipush hx hb dd_X8_canBe_18 (by decide), ?_⟩
  refine List.forall_mem_cons.mpr ⟨ok_iconst hx hb dd_X8_canBe_21 (by decide), ?_⟩
  refine List.forall_mem_cons.mpr ⟨ok_iload hx hb dd_X8_canBe_22, ?_⟩
  refine List.forall_mem_cons.mpr ⟨ok_imul hx hb dd_X8_canBe_24, ?_⟩
  refine List.forall_mem_cons.mpr ⟨ok_iadd hx hb dd_X8_canBe_25, ?_⟩
  refine List.forall_mem_cons.mpr ⟨ok_istore hx hb dd_X8_canBe_26, ?_⟩
  refine List.forall_mem_cons.mpr ⟨ok_aload_n hx hb rfl dd_X8_canBe_28, ?_⟩
  refine List.forall_mem_cons.mpr ⟨ok_getR (j := 0) hx hb hts zi_X8 hown hK zc_X8 (by decide) rfl (fun t fl h => by cases h; rfl) (hts _ wd_840) dd_X8_canBe_29, ?_⟩
  refine List.forall_mem_cons.mpr ⟨ok_iload hx hb dd_X8_canBe_32, ?_⟩
  refine List.forall_mem_cons.mpr ⟨ok_ald (ty := 0) rfl hx hb hK (Or.inl ⟨rfl, rfl, dd_X8_canBe_34⟩), ?_⟩
  refine List.forall_mem_cons.mpr ⟨ok_iload_n hx hb rfl dd_X8_canBe_35, ?_⟩
  refine List.forall_mem_cons.mpr ⟨ok_icmp_ne hx hb dd_X8_canBe_36 (by decide), ?_⟩
  refine List.forall_mem_cons.mpr ⟨ok_aload_n hx hb rfl dd_X8_canBe_39, ?_⟩
  refine List.forall_mem_cons.mpr ⟨ok_getR (j := 0) hx hb hts zi_X8 hown hK zc_X8 (by decide) rfl (fun t fl h => by cases h; rfl) (hts _ wd_840) dd_X8_canBe_40, ?_⟩
  refine List.forall_mem_cons.mpr ⟨ok_iload hx hb dd_X8_canBe_43, ?_⟩
  refine List.forall_mem_cons.mpr ⟨ok_iconst hx hb dd_X8_canBe_45 (by decide), ?_⟩
  refine List.forall_mem_cons.mpr ⟨ok_iadd hx hb dd_X8_canBe_46, ?_⟩
  refine List.forall_mem_cons.mpr ⟨ok_ald (ty := 0) rfl hx hb hK (Or.inl ⟨rfl, rfl, dd_X8_canBe_47⟩), ?_⟩
  refine List.forall_mem_cons.mpr ⟨ok_iload_n hx hb rfl dd_X8_canBe_48, ?_⟩
  refine List.forall_mem_cons.mpr ⟨ok_icmp_ne hx hb dd_X8_canBe_49 (by decide), ?_⟩
  refine List.forall_mem_cons.mpr ⟨ok_iconst hx hb dd_X8_canBe_52 (by decide), ?_⟩
  refine List.forall_mem_cons.mpr ⟨ok_goto hx hb dd_X8_canBe_53 (by decide), ?_⟩
  refine List.forall_mem_cons.mpr ⟨ok_iconst hx hb dd_X8_canBe_56 (by decide), ?_⟩
  refine List.forall_mem_cons.mpr ⟨ok_istore hx hb dd_X8_canBe_57, ?_⟩
  refine List.forall_mem_cons.mpr ⟨ok_iload hx hb dd_X8_canBe_59, ?_⟩
  refine List.forall_mem_cons.mpr ⟨ok_if_eq hx hb dd_X8_canBe_61 (by decide), ?_⟩
  refine List.forall_mem_cons.mpr ⟨ok_iload hx hb dd_X8_canBe_64, ?_⟩
  refine List.forall_mem_cons.mpr ⟨ok_if_eq hx hb dd_X8_canBe_66 (by decide), ?_⟩
  refine List.forall_mem_cons.mpr ⟨ok_aload_n hx hb rfl dd_X8_canBe_69, ?_⟩
  refine List.forall_mem_cons.mpr ⟨ok_iload_n hx hb rfl dd_X8_canBe_70, ?_⟩
  refine List.forall_mem_cons.mpr ⟨ok_iload_n hx hb rfl dd_X8_canBe_71, ?_⟩
  refine List.forall_mem_cons.mpr ⟨ok_aload_n hx hb rfl dd_X8_canBe_72, ?_⟩
  refine List.forall_mem_cons.mpr ⟨ok_getR (j := 0) hx hb hts zi_X8 hown hK zc_X8 (by decide) rfl (fun t fl h => by cases h; rfl) (hts _ wd_840) dd_X8_canBe_73, ?_⟩
  refine List.forall_mem_cons.mpr ⟨ok_iload hx hb dd_X8_canBe_76, ?_⟩
  refine List.forall_mem_cons.mpr ⟨ok_iconst hx hb dd_X8_canBe_78 (by decide), ?_⟩
  refine List.forall_mem_cons.mpr ⟨ok_iadd hx hb dd_X8_canBe_79, ?_⟩
  refine List.forall_mem_cons.mpr ⟨ok_ald (ty := 0) rfl hx hb hK (Or.inl ⟨rfl, rfl, dd_X8_canBe_80⟩), ?_⟩
  refine List.forall_mem_cons.mpr ⟨ok_iload_n hx hb rfl dd_X8_canBe_81, ?_⟩
  refine List.forall_mem_cons.mpr ⟨ok_callV (n := 4) zc_X8 rv_X8_bindsAs C0 (h_X8_bindsAs (d + 4) (by omega)) (by decide) wd_1012 wd_1009 wd_1011 wd_70 wd_107 ⟨rfl, by decide +kernel, by decide +kernel, by decide +kernel⟩ dd_X8_canBe_82, ?_⟩
  refine List.forall_mem_cons.mpr ⟨ok_aload_n hx hb rfl dd_X8_canBe_85, ?_⟩
  refine List.forall_mem_cons.mpr ⟨ok_getR (j := 0) hx hb hts zi_X8 hown hK zc_X8 (by decide) rfl (fun t fl h => by cases h; rfl) (hts _ wd_840) dd_X8_canBe_86, ?_⟩
  refine List.forall_mem_cons.mpr ⟨ok_iload hx hb dd_X8_canBe_89, ?_⟩
  refine List.forall_mem_cons.mpr ⟨ok_iconst hx hb dd_X8_canBe_91 (by decide), ?_⟩
  refine List.forall_mem_cons.mpr ⟨ok_iadd hx hb dd_X8_canBe_92, ?_⟩
  refine List.forall_mem_cons.mpr ⟨ok_ald (ty := 0) rfl hx hb hK (Or.inl ⟨rfl, rfl, dd_X8_canBe_93⟩), ?_⟩
  refine List.forall_mem_cons.mpr ⟨ok_iconst hx hb dd_X8_canBe_94 (by decide), ?_⟩
  refine List.forall_mem_cons.mpr ⟨ok_icmp_ne hx hb dd_X8_canBe_95 (by decide), ?_⟩
  refine List.forall_mem_cons.mpr ⟨ok_iconst hx hb dd_X8_canBe_98 (by decide), ?_⟩
  refine List.forall_mem_cons.mpr ⟨ok_goto hx hb dd_X8_canBe_99 (by decide), ?_⟩
  refine List.forall_mem_cons.mpr ⟨ok_iconst hx hb dd_X8_canBe_102 (by decide), ?_⟩
  refine List.forall_mem_cons.mpr ⟨ok_icmp_ne hx hb dd_X8_canBe_103 (by decide), ?_⟩
  refine List.forall_mem_cons.mpr ⟨ok_iconst hx hb dd_X8_canBe_106 (by decide), ?_⟩
  refine List.forall_mem_cons.mpr ⟨ok_goto hx hb dd_X8_canBe_107 (by decide), ?_⟩
  refine List.forall_mem_cons.mpr ⟨ok_iconst hx hb dd_X8_canBe_110 (by decide), ?_⟩
  refine List.forall_mem_cons.mpr ⟨ok_istore hx hb dd_X8_canBe_111, ?_⟩
  refine List.forall_mem_cons.mpr ⟨ok_iinc hx hb dd_X8_canBe_113 (by decide), ?_⟩
  refine List.forall_mem_cons.mpr ⟨ok_goto hx hb dd_X8_canBe_116 (by decide), ?_⟩
  refine List.forall_mem_cons.mpr ⟨ok_iload hx hb dd_X8_canBe_119, ?_⟩
  refine List.forall_mem_cons.mpr ⟨ok_zret hx hb hr hlocks hQ dd_X8_canBe_121, ?_⟩
  exact fun _ h => absurd h List.not_mem_nil
set_option maxRecDepth 100000 in
theorem vc_X8_canBe_0 {kd : Nat → Nat} {K : zK} {X : zX} (hX : ∀ (n pc : Nat) (ls : zLS) (st : List zV) (M : zM), zrun (tb_X8_canBe kd K) [(6, [6, 7])] n X pc ls st M → X pc ls st M) {c : Int32} {i : Int32} {k : Int32} {M : zM}  (h : X 6 [some (zR 9 0), some (zI (c)), some (zI (i)), some (zI (k)), some (zI ((1 : Int32))), some (zI ((0 : Int32))), none, none] [] M) : X 0 [some (zR 9 0), some (zI (c)), some (zI (i)), some (zI (k)), none, none, none, none] [] M := hX 6 0 _ [] M (show X 6 [some (zR 9 0), some (zI (c)), some (zI (i)), some (zI (k)), some (zI ((1 : Int32))), some (zI ((0 : Int32))), none, none] [] M from h)
set_option maxRecDepth 100000 in
theorem vc_X8_canBe_6 {kd : Nat → Nat} {K : zK} {X : zX} (hX : ∀ (n pc : Nat) (ls : zLS) (st : List zV) (M : zM), zrun (tb_X8_canBe kd K) [(6, [6, 7])] n X pc ls st M → X pc ls st M) {c : Int32} {i : Int32} {k : Int32} {b : Int32} {n : Int32} {M : zM} (hk0 : kd 9 = 8) (h : (zin (kd 9) 1 0 (127 : Int32)) ∧ (((M.1 9 1 ((127 : Int32)).toNatClampNeg) ≤ n) → (b = 0 ∨ b = 1) ∧ K (some (zI (b))) M) ∧ ((¬ (M.1 9 1 ((127 : Int32)).toNatClampNeg) ≤ n) → (zin (kd 9) 1 0 ((129 : Int32) + ((4 : Int32) * n))) ∧ ((¬ (M.1 9 1 ((129 : Int32) + ((4 : Int32) * n)).toNatClampNeg) = c) → ((b = 0) → X 6 [some (zR 9 0), some (zI (c)), some (zI (i)), some (zI (k)), some (zI ((0 : Int32))), some (zI (n + 1)), none, none] [] M) ∧ ((¬ b = 0) → X 6 [some (zR 9 0), some (zI (c)), some (zI (i)), some (zI (k)), some (zI ((1 : Int32))), some (zI (n + 1)), none, none] [] M)) ∧ (((M.1 9 1 ((129 : Int32) + ((4 : Int32) * n)).toNatClampNeg) = c) → (zin (kd 9) 1 0 (((129 : Int32) + ((4 : Int32) * n)) + (1 : Int32))) ∧ ((¬ (M.1 9 1 (((129 : Int32) + ((4 : Int32) * n)) + (1 : Int32)).toNatClampNeg) = i) → ((b = 0) → X 6 [some (zR 9 0), some (zI (c)), some (zI (i)), some (zI (k)), some (zI ((0 : Int32))), some (zI (n + 1)), none, none] [] M) ∧ ((¬ b = 0) → X 6 [some (zR 9 0), some (zI (c)), some (zI (i)), some (zI (k)), some (zI ((1 : Int32))), some (zI (n + 1)), none, none] [] M)) ∧ (((M.1 9 1 (((129 : Int32) + ((4 : Int32) * n)) + (1 : Int32)).toNatClampNeg) = i) → ((b = 0) → X 6 [some (zR 9 0), some (zI (c)), some (zI (i)), some (zI (k)), some (zI ((0 : Int32))), some (zI (n + 1)), none, none] [] M) ∧ ((¬ b = 0) → (zin (kd 9) 1 0 (((129 : Int32) + ((4 : Int32) * n)) + (2 : Int32))) ∧ ∃ a3 : Sk, (RpF (M.1 9 5) a3) ∧ ∃ l3 : Ly, (sk_at a3 c.toInt i.toInt = some l3) ∧ (0 ≤ (M.1 9 1 (((129 : Int32) + ((4 : Int32) * n)) + (2 : Int32)).toNatClampNeg).toInt ∧ (M.1 9 1 (((129 : Int32) + ((4 : Int32) * n)) + (2 : Int32)).toNatClampNeg).toInt < 1000000) ∧ ∀ v3 : Int32, (v3 = zp (bnd k.toInt l3 (sk_at a3 c.toInt (i.toInt + 1)) (M.1 9 1 (((129 : Int32) + ((4 : Int32) * n)) + (2 : Int32)).toNatClampNeg).toInt = true)) → (zin (kd 9) 1 0 (((129 : Int32) + ((4 : Int32) * n)) + (3 : Int32))) ∧ ((¬ (M.1 9 1 (((129 : Int32) + ((4 : Int32) * n)) + (3 : Int32)).toNatClampNeg) = (1 : Int32)) → ((¬ v3 = (0 : Int32)) → X 6 [some (zR 9 0), some (zI (c)), some (zI (i)), some (zI (k)), some (zI ((0 : Int32))), some (zI (n + 1)), none, none] [] M) ∧ ((v3 = (0 : Int32)) → X 6 [some (zR 9 0), some (zI (c)), some (zI (i)), some (zI (k)), some (zI ((1 : Int32))), some (zI (n + 1)), none, none] [] M)) ∧ (((M.1 9 1 (((129 : Int32) + ((4 : Int32) * n)) + (3 : Int32)).toNatClampNeg) = (1 : Int32)) → ((¬ v3 = (1 : Int32)) → X 6 [some (zR 9 0), some (zI (c)), some (zI (i)), some (zI (k)), some (zI ((0 : Int32))), some (zI (n + 1)), none, none] [] M) ∧ ((v3 = (1 : Int32)) → X 6 [some (zR 9 0), some (zI (c)), some (zI (i)), some (zI (k)), some (zI ((1 : Int32))), some (zI (n + 1)), none, none] [] M))))))) : X 6 [some (zR 9 0), some (zI (c)), some (zI (i)), some (zI (k)), some (zI (b)), some (zI (n)), none, none] [] M := hX 62 6 _ [] M (show (kd 9 = 8) ∧ (zin (kd 9) 1 0 (127 : Int32)) ∧ (((M.1 9 1 ((127 : Int32)).toNatClampNeg) ≤ n) → (b = 0 ∨ b = 1) ∧ K (some (zI (b))) M) ∧ ((¬ (M.1 9 1 ((127 : Int32)).toNatClampNeg) ≤ n) → (kd 9 = 8) ∧ (zin (kd 9) 1 0 ((129 : Int32) + ((4 : Int32) * n))) ∧ ((¬ (M.1 9 1 ((129 : Int32) + ((4 : Int32) * n)).toNatClampNeg) = c) → ((b = 0) → X 6 [some (zR 9 0), some (zI (c)), some (zI (i)), some (zI (k)), some (zI ((0 : Int32))), some (zI (n + 1)), none, none] [] M) ∧ ((¬ b = 0) → (((0 : Int32) = 0) → X 6 [some (zR 9 0), some (zI (c)), some (zI (i)), some (zI (k)), some (zI ((1 : Int32))), some (zI (n + 1)), none, none] [] M) ∧ ((¬ (0 : Int32) = 0) → (kd 9 = 8) ∧ (zin (kd 9) 1 0 (((129 : Int32) + ((4 : Int32) * n)) + (2 : Int32))) ∧ (kd 9 = 8) ∧ ∃ a1 : Sk, (RpF (M.1 9 5) a1) ∧ ∃ l1 : Ly, (sk_at a1 c.toInt i.toInt = some l1) ∧ (0 ≤ (M.1 9 1 (((129 : Int32) + ((4 : Int32) * n)) + (2 : Int32)).toNatClampNeg).toInt ∧ (M.1 9 1 (((129 : Int32) + ((4 : Int32) * n)) + (2 : Int32)).toNatClampNeg).toInt < 1000000) ∧ ∀ v1 : Int32, (v1 = zp (bnd k.toInt l1 (sk_at a1 c.toInt (i.toInt + 1)) (M.1 9 1 (((129 : Int32) + ((4 : Int32) * n)) + (2 : Int32)).toNatClampNeg).toInt = true)) → (kd 9 = 8) ∧ (zin (kd 9) 1 0 (((129 : Int32) + ((4 : Int32) * n)) + (3 : Int32))) ∧ ((¬ (M.1 9 1 (((129 : Int32) + ((4 : Int32) * n)) + (3 : Int32)).toNatClampNeg) = (1 : Int32)) → ((¬ v1 = (0 : Int32)) → X 6 [some (zR 9 0), some (zI (c)), some (zI (i)), some (zI (k)), some (zI ((0 : Int32))), some (zI (n + 1)), none, none] [] M) ∧ ((v1 = (0 : Int32)) → X 6 [some (zR 9 0), some (zI (c)), some (zI (i)), some (zI (k)), some (zI ((1 : Int32))), some (zI (n + 1)), none, none] [] M)) ∧ (((M.1 9 1 (((129 : Int32) + ((4 : Int32) * n)) + (3 : Int32)).toNatClampNeg) = (1 : Int32)) → ((¬ v1 = (1 : Int32)) → X 6 [some (zR 9 0), some (zI (c)), some (zI (i)), some (zI (k)), some (zI ((0 : Int32))), some (zI (n + 1)), none, none] [] M) ∧ ((v1 = (1 : Int32)) → X 6 [some (zR 9 0), some (zI (c)), some (zI (i)), some (zI (k)), some (zI ((1 : Int32))), some (zI (n + 1)), none, none] [] M))))) ∧ (((M.1 9 1 ((129 : Int32) + ((4 : Int32) * n)).toNatClampNeg) = c) → (kd 9 = 8) ∧ (zin (kd 9) 1 0 (((129 : Int32) + ((4 : Int32) * n)) + (1 : Int32))) ∧ ((¬ (M.1 9 1 (((129 : Int32) + ((4 : Int32) * n)) + (1 : Int32)).toNatClampNeg) = i) → ((b = 0) → X 6 [some (zR 9 0), some (zI (c)), some (zI (i)), some (zI (k)), some (zI ((0 : Int32))), some (zI (n + 1)), none, none] [] M) ∧ ((¬ b = 0) → (((0 : Int32) = 0) → X 6 [some (zR 9 0), some (zI (c)), some (zI (i)), some (zI (k)), some (zI ((1 : Int32))), some (zI (n + 1)), none, none] [] M) ∧ ((¬ (0 : Int32) = 0) → (kd 9 = 8) ∧ (zin (kd 9) 1 0 (((129 : Int32) + ((4 : Int32) * n)) + (2 : Int32))) ∧ (kd 9 = 8) ∧ ∃ a2 : Sk, (RpF (M.1 9 5) a2) ∧ ∃ l2 : Ly, (sk_at a2 c.toInt i.toInt = some l2) ∧ (0 ≤ (M.1 9 1 (((129 : Int32) + ((4 : Int32) * n)) + (2 : Int32)).toNatClampNeg).toInt ∧ (M.1 9 1 (((129 : Int32) + ((4 : Int32) * n)) + (2 : Int32)).toNatClampNeg).toInt < 1000000) ∧ ∀ v2 : Int32, (v2 = zp (bnd k.toInt l2 (sk_at a2 c.toInt (i.toInt + 1)) (M.1 9 1 (((129 : Int32) + ((4 : Int32) * n)) + (2 : Int32)).toNatClampNeg).toInt = true)) → (kd 9 = 8) ∧ (zin (kd 9) 1 0 (((129 : Int32) + ((4 : Int32) * n)) + (3 : Int32))) ∧ ((¬ (M.1 9 1 (((129 : Int32) + ((4 : Int32) * n)) + (3 : Int32)).toNatClampNeg) = (1 : Int32)) → ((¬ v2 = (0 : Int32)) → X 6 [some (zR 9 0), some (zI (c)), some (zI (i)), some (zI (k)), some (zI ((0 : Int32))), some (zI (n + 1)), none, none] [] M) ∧ ((v2 = (0 : Int32)) → X 6 [some (zR 9 0), some (zI (c)), some (zI (i)), some (zI (k)), some (zI ((1 : Int32))), some (zI (n + 1)), none, none] [] M)) ∧ (((M.1 9 1 (((129 : Int32) + ((4 : Int32) * n)) + (3 : Int32)).toNatClampNeg) = (1 : Int32)) → ((¬ v2 = (1 : Int32)) → X 6 [some (zR 9 0), some (zI (c)), some (zI (i)), some (zI (k)), some (zI ((0 : Int32))), some (zI (n + 1)), none, none] [] M) ∧ ((v2 = (1 : Int32)) → X 6 [some (zR 9 0), some (zI (c)), some (zI (i)), some (zI (k)), some (zI ((1 : Int32))), some (zI (n + 1)), none, none] [] M))))) ∧ (((M.1 9 1 (((129 : Int32) + ((4 : Int32) * n)) + (1 : Int32)).toNatClampNeg) = i) → ((b = 0) → X 6 [some (zR 9 0), some (zI (c)), some (zI (i)), some (zI (k)), some (zI ((0 : Int32))), some (zI (n + 1)), none, none] [] M) ∧ ((¬ b = 0) → (((1 : Int32) = 0) → X 6 [some (zR 9 0), some (zI (c)), some (zI (i)), some (zI (k)), some (zI ((1 : Int32))), some (zI (n + 1)), none, none] [] M) ∧ ((¬ (1 : Int32) = 0) → (kd 9 = 8) ∧ (zin (kd 9) 1 0 (((129 : Int32) + ((4 : Int32) * n)) + (2 : Int32))) ∧ (kd 9 = 8) ∧ ∃ a3 : Sk, (RpF (M.1 9 5) a3) ∧ ∃ l3 : Ly, (sk_at a3 c.toInt i.toInt = some l3) ∧ (0 ≤ (M.1 9 1 (((129 : Int32) + ((4 : Int32) * n)) + (2 : Int32)).toNatClampNeg).toInt ∧ (M.1 9 1 (((129 : Int32) + ((4 : Int32) * n)) + (2 : Int32)).toNatClampNeg).toInt < 1000000) ∧ ∀ v3 : Int32, (v3 = zp (bnd k.toInt l3 (sk_at a3 c.toInt (i.toInt + 1)) (M.1 9 1 (((129 : Int32) + ((4 : Int32) * n)) + (2 : Int32)).toNatClampNeg).toInt = true)) → (kd 9 = 8) ∧ (zin (kd 9) 1 0 (((129 : Int32) + ((4 : Int32) * n)) + (3 : Int32))) ∧ ((¬ (M.1 9 1 (((129 : Int32) + ((4 : Int32) * n)) + (3 : Int32)).toNatClampNeg) = (1 : Int32)) → ((¬ v3 = (0 : Int32)) → X 6 [some (zR 9 0), some (zI (c)), some (zI (i)), some (zI (k)), some (zI ((0 : Int32))), some (zI (n + 1)), none, none] [] M) ∧ ((v3 = (0 : Int32)) → X 6 [some (zR 9 0), some (zI (c)), some (zI (i)), some (zI (k)), some (zI ((1 : Int32))), some (zI (n + 1)), none, none] [] M)) ∧ (((M.1 9 1 (((129 : Int32) + ((4 : Int32) * n)) + (3 : Int32)).toNatClampNeg) = (1 : Int32)) → ((¬ v3 = (1 : Int32)) → X 6 [some (zR 9 0), some (zI (c)), some (zI (i)), some (zI (k)), some (zI ((0 : Int32))), some (zI (n + 1)), none, none] [] M) ∧ ((v3 = (1 : Int32)) → X 6 [some (zR 9 0), some (zI (c)), some (zI (i)), some (zI (k)), some (zI ((1 : Int32))), some (zI (n + 1)), none, none] [] M))))))) from ⟨hk0, ⟨h.1, have h := h.2; ⟨fun q => have h := h.1 q; ⟨h.1, have h := h.2; h⟩, fun q => have h := h.2 q; ⟨hk0, ⟨h.1, have h := h.2; ⟨fun q => have h := h.1 q; ⟨fun q => have h := h.1 q; h, fun q => have h := h.2 q; ⟨fun _ => h, fun q => absurd q (by decide)⟩⟩, fun q => have h := h.2 q; ⟨hk0, ⟨h.1, have h := h.2; ⟨fun q => have h := h.1 q; ⟨fun q => have h := h.1 q; h, fun q => have h := h.2 q; ⟨fun _ => h, fun q => absurd q (by decide)⟩⟩, fun q => have h := h.2 q; ⟨fun q => have h := h.1 q; h, fun q => have h := h.2 q; ⟨fun q => absurd q (by decide), fun _ => ⟨hk0, ⟨h.1, have h := h.2; ⟨hk0, h.elim (fun a3 h => ⟨a3, ⟨h.1, have h := h.2; h.elim (fun l3 h => ⟨l3, ⟨h.1, have h := h.2; ⟨h.1, have h := h.2; fun v3 => have h := h v3; fun q => have h := h q; ⟨hk0, ⟨h.1, have h := h.2; ⟨fun q => have h := h.1 q; ⟨fun q => have h := h.1 q; h, fun q => have h := h.2 q; h⟩, fun q => have h := h.2 q; ⟨fun q => have h := h.1 q; h, fun q => have h := h.2 q; h⟩⟩⟩⟩⟩⟩⟩)⟩⟩)⟩⟩⟩⟩⟩⟩⟩⟩⟩⟩⟩⟩⟩⟩)
def sp_X8_kindsOf : zSpec := fun kd as M K => match as with
  | [.inr (.inr (.inl (9, 0))), .inl c, .inl i] => (kd 9 = 8) ∧ ∃ s : St, (RpM M s) ∧ (RpF (M.1 9 5) s.1.1) ∧ ∃ l : Ly, (sk_at s.1.1 c.toInt i.toInt = some l) ∧ ∀ v : Int32, (v.toInt = seFit s.1.2.2 l (sk_at s.1.1 c.toInt (i.toInt + 1)) c.toInt i.toInt) → K (some (.inl v)) M
  | _ => False
theorem rv_X8_kindsOf : zrv sp_X8_kindsOf 8 2 := by
  intro kd as M K h
  unfold sp_X8_kindsOf at h
  split at h
  · exact ⟨_, _, rfl, h.1⟩
  · exact h.elim
theorem dd_X8_kindsOf_0 : decode cX8_kindsOf 0 = .ok (.iconst 0, 1) := by decide +kernel
theorem dd_X8_kindsOf_1 : decode cX8_kindsOf 1 = .ok (.istore_n 3, 1) := by decide +kernel
theorem dd_X8_kindsOf_2 : decode cX8_kindsOf 2 = .ok (.iconst 0, 1) := by decide +kernel
theorem dd_X8_kindsOf_3 : decode cX8_kindsOf 3 = .ok (.istore 4, 2) := by decide +kernel
theorem dd_X8_kindsOf_5 : decode cX8_kindsOf 5 = .ok (.iload 4, 2) := by decide +kernel
theorem dd_X8_kindsOf_7 : decode cX8_kindsOf 7 = .ok (.bipush 6, 2) := by decide +kernel
theorem dd_X8_kindsOf_9 : decode cX8_kindsOf 9 = .ok (.if_icmp .ge 31, 3) := by decide +kernel
theorem dd_X8_kindsOf_12 : decode cX8_kindsOf 12 = .ok (.iload_n 3, 1) := by decide +kernel
theorem dd_X8_kindsOf_13 : decode cX8_kindsOf 13 = .ok (.aload_n 0, 1) := by decide +kernel
theorem dd_X8_kindsOf_14 : decode cX8_kindsOf 14 = .ok (.iload_n 1, 1) := by decide +kernel
theorem dd_X8_kindsOf_15 : decode cX8_kindsOf 15 = .ok (.iload_n 2, 1) := by decide +kernel
theorem dd_X8_kindsOf_16 : decode cX8_kindsOf 16 = .ok (.iload 4, 2) := by decide +kernel
theorem dd_X8_kindsOf_18 : decode cX8_kindsOf 18 = .ok (.invokevirtual 199, 3) := by decide +kernel
theorem dd_X8_kindsOf_21 : decode cX8_kindsOf 21 = .ok (.ifCond .eq 10, 3) := by decide +kernel
theorem dd_X8_kindsOf_24 : decode cX8_kindsOf 24 = .ok (.iconst 1, 1) := by decide +kernel
theorem dd_X8_kindsOf_25 : decode cX8_kindsOf 25 = .ok (.iload 4, 2) := by decide +kernel
theorem dd_X8_kindsOf_27 : decode cX8_kindsOf 27 = .ok (.ishl, 1) := by decide +kernel
theorem dd_X8_kindsOf_28 : decode cX8_kindsOf 28 = .ok (.goto 4, 3) := by decide +kernel
theorem dd_X8_kindsOf_31 : decode cX8_kindsOf 31 = .ok (.iconst 0, 1) := by decide +kernel
theorem dd_X8_kindsOf_32 : decode cX8_kindsOf 32 = .ok (.ior, 1) := by decide +kernel
theorem dd_X8_kindsOf_33 : decode cX8_kindsOf 33 = .ok (.istore_n 3, 1) := by decide +kernel
theorem dd_X8_kindsOf_34 : decode cX8_kindsOf 34 = .ok (.iinc 4 1, 3) := by decide +kernel
theorem dd_X8_kindsOf_37 : decode cX8_kindsOf 37 = .ok (.goto (-32), 3) := by decide +kernel
theorem dd_X8_kindsOf_40 : decode cX8_kindsOf 40 = .ok (.iload_n 3, 1) := by decide +kernel
theorem dd_X8_kindsOf_41 : decode cX8_kindsOf 41 = .ok (.ireturn, 1) := by decide +kernel
def tb_X8_kindsOf (kd : Nat → Nat) (K : zK) : zTab := [(0, zt_const (zI 0) 1), (1, zt_istore 3 2), (2, zt_const (zI 0) 3), (3, zt_istore 4 5), (5, zt_iload 4 7), (7, zt_const (zI 6) 9), (9, zt_icmp (fun x y => y ≤ x) (fun x y => ¬ y ≤ x) 40 12), (12, zt_iload 3 13), (13, zt_aload 0 14), (14, zt_iload 1 15), (15, zt_iload 2 16), (16, zt_iload 4 18), (18, zt_call kd sp_X8_canBe 4 21), (21, zt_if (fun x => x = 0) (fun x => ¬ x = 0) 31 24), (24, zt_const (zI 1) 25), (25, zt_iload 4 27), (27, zt_bin (fun x y => x <<< (y &&& 31)) 28), (28, zt_goto 32), (31, zt_const (zI 0) 32), (32, zt_bin (fun x y => x ||| y) 33), (33, zt_istore 3 34), (34, zt_iinc 4 1 37), (37, zt_goto 5), (40, zt_iload 3 41), (41, zt_iret K)]
set_option maxRecDepth 20000 in
theorem tk_X8_kindsOf (d : Nat) (h_X8_canBe : zMS 5 yX8_canBe cX8_canBe 8 (some .boolean) sp_X8_canBe) : zTrue RX8 cX8_kindsOf 5 (some .int) (d + 6) (fun kd K => tb_X8_kindsOf kd K) := by
  intro p l e R s m args below meth c D cy A ad bl Qm K C0 hr hlocks hQ
  obtain ⟨hx, hb, hml, hown, hts, hK, hD, hA0, hN, hE, ⟨hR1, hR2⟩, hc1, hc2⟩ := id C0
  unfold tb_X8_kindsOf
  refine List.forall_mem_cons.mpr ⟨ok_iconst hx hb dd_X8_kindsOf_0 (by decide), ?_⟩
  refine List.forall_mem_cons.mpr ⟨ok_istore_n hx hb rfl dd_X8_kindsOf_1, ?_⟩
  refine List.forall_mem_cons.mpr ⟨ok_iconst hx hb dd_X8_kindsOf_2 (by decide), ?_⟩
  refine List.forall_mem_cons.mpr ⟨ok_istore hx hb dd_X8_kindsOf_3, ?_⟩
  refine List.forall_mem_cons.mpr ⟨ok_iload hx hb dd_X8_kindsOf_5, ?_⟩
  refine List.forall_mem_cons.mpr ⟨ok_bipush hx hb dd_X8_kindsOf_7 (by decide), ?_⟩
  refine List.forall_mem_cons.mpr ⟨ok_icmp_ge hx hb dd_X8_kindsOf_9 (by decide), ?_⟩
  refine List.forall_mem_cons.mpr ⟨ok_iload_n hx hb rfl dd_X8_kindsOf_12, ?_⟩
  refine List.forall_mem_cons.mpr ⟨ok_aload_n hx hb rfl dd_X8_kindsOf_13, ?_⟩
  refine List.forall_mem_cons.mpr ⟨ok_iload_n hx hb rfl dd_X8_kindsOf_14, ?_⟩
  refine List.forall_mem_cons.mpr ⟨ok_iload_n hx hb rfl dd_X8_kindsOf_15, ?_⟩
  refine List.forall_mem_cons.mpr ⟨ok_iload hx hb dd_X8_kindsOf_16, ?_⟩
  refine List.forall_mem_cons.mpr ⟨ok_callV (n := 3) zc_X8 rv_X8_canBe C0 (h_X8_canBe (d + 5) (by omega)) (by decide) wd_1118 wd_1115 wd_1117 wd_85 wd_107 ⟨rfl, by decide +kernel, by decide +kernel, by decide +kernel⟩ dd_X8_kindsOf_18, ?_⟩
  refine List.forall_mem_cons.mpr ⟨ok_if_eq hx hb dd_X8_kindsOf_21 (by decide), ?_⟩
  refine List.forall_mem_cons.mpr ⟨ok_iconst hx hb dd_X8_kindsOf_24 (by decide), ?_⟩
  refine List.forall_mem_cons.mpr ⟨ok_iload hx hb dd_X8_kindsOf_25, ?_⟩
  refine List.forall_mem_cons.mpr ⟨ok_ishl hx hb dd_X8_kindsOf_27, ?_⟩
  refine List.forall_mem_cons.mpr ⟨ok_goto hx hb dd_X8_kindsOf_28 (by decide), ?_⟩
  refine List.forall_mem_cons.mpr ⟨ok_iconst hx hb dd_X8_kindsOf_31 (by decide), ?_⟩
  refine List.forall_mem_cons.mpr ⟨ok_ior hx hb dd_X8_kindsOf_32, ?_⟩
  refine List.forall_mem_cons.mpr ⟨ok_istore_n hx hb rfl dd_X8_kindsOf_33, ?_⟩
  refine List.forall_mem_cons.mpr ⟨ok_iinc hx hb dd_X8_kindsOf_34 (by decide), ?_⟩
  refine List.forall_mem_cons.mpr ⟨ok_goto hx hb dd_X8_kindsOf_37 (by decide), ?_⟩
  refine List.forall_mem_cons.mpr ⟨ok_iload_n hx hb rfl dd_X8_kindsOf_40, ?_⟩
  refine List.forall_mem_cons.mpr ⟨ok_iret hx hb hr hlocks hQ dd_X8_kindsOf_41, ?_⟩
  exact fun _ h => absurd h List.not_mem_nil
set_option maxRecDepth 100000 in
theorem vc_X8_kindsOf_0 {kd : Nat → Nat} {K : zK} {X : zX} (hX : ∀ (n pc : Nat) (ls : zLS) (st : List zV) (M : zM), zrun (tb_X8_kindsOf kd K) [(5, [])] n X pc ls st M → X pc ls st M) {c : Int32} {i : Int32} {M : zM}  (h : X 5 [some (zR 9 0), some (zI (c)), some (zI (i)), some (zI ((0 : Int32))), some (zI ((0 : Int32)))] [] M) : X 0 [some (zR 9 0), some (zI (c)), some (zI (i)), none, none] [] M := hX 6 0 _ [] M (show X 5 [some (zR 9 0), some (zI (c)), some (zI (i)), some (zI ((0 : Int32))), some (zI ((0 : Int32)))] [] M from h)
set_option maxRecDepth 100000 in
theorem vc_X8_kindsOf_5 {kd : Nat → Nat} {K : zK} {X : zX} (hX : ∀ (n pc : Nat) (ls : zLS) (st : List zV) (M : zM), zrun (tb_X8_kindsOf kd K) [(5, [])] n X pc ls st M → X pc ls st M) {c : Int32} {i : Int32} {w : Int32} {k : Int32} {M : zM} (hk0 : kd 9 = 8) (h : (((6 : Int32) ≤ k) → K (some (zI (w))) M) ∧ ((¬ (6 : Int32) ≤ k) → ∃ s1 : St, (RpM M s1) ∧ (RpF (M.1 9 5) s1.1.1) ∧ ∃ l1 : Ly, (sk_at s1.1.1 c.toInt i.toInt = some l1) ∧ ∀ v1 : Int32, (v1 = zp (s1.1.2.2.all (seOk k.toInt l1 (sk_at s1.1.1 c.toInt (i.toInt + 1)) c.toInt i.toInt) = true)) → ((v1 = 0) → X 5 [some (zR 9 0), some (zI (c)), some (zI (i)), some (zI (w ||| (0 : Int32))), some (zI (k + 1))] [] M) ∧ ((¬ v1 = 0) → X 5 [some (zR 9 0), some (zI (c)), some (zI (i)), some (zI (w ||| ((1 : Int32) <<< (k &&& 31)))), some (zI (k + 1))] [] M))) : X 5 [some (zR 9 0), some (zI (c)), some (zI (i)), some (zI (w)), some (zI (k))] [] M := hX 20 5 _ [] M (show (((6 : Int32) ≤ k) → K (some (zI (w))) M) ∧ ((¬ (6 : Int32) ≤ k) → (kd 9 = 8) ∧ ∃ s1 : St, (RpM M s1) ∧ (RpF (M.1 9 5) s1.1.1) ∧ ∃ l1 : Ly, (sk_at s1.1.1 c.toInt i.toInt = some l1) ∧ ∀ v1 : Int32, (v1 = zp (s1.1.2.2.all (seOk k.toInt l1 (sk_at s1.1.1 c.toInt (i.toInt + 1)) c.toInt i.toInt) = true)) → ((v1 = 0) → X 5 [some (zR 9 0), some (zI (c)), some (zI (i)), some (zI (w ||| (0 : Int32))), some (zI (k + 1))] [] M) ∧ ((¬ v1 = 0) → X 5 [some (zR 9 0), some (zI (c)), some (zI (i)), some (zI (w ||| ((1 : Int32) <<< (k &&& 31)))), some (zI (k + 1))] [] M)) from ⟨fun q => have h := h.1 q; h, fun q => have h := h.2 q; ⟨hk0, h.elim (fun s1 h => ⟨s1, ⟨h.1, have h := h.2; ⟨h.1, have h := h.2; h.elim (fun l1 h => ⟨l1, ⟨h.1, have h := h.2; fun v1 => have h := h v1; fun q => have h := h q; ⟨fun q => have h := h.1 q; h, fun q => have h := h.2 q; h⟩⟩⟩)⟩⟩⟩)⟩⟩)
def sp_X8_is : zSpec := fun kd as M K => match as with
  | [.inr (.inr (.inl (9, 0))), .inl c, .inl i] => (kd 9 = 8) ∧ ∃ s : St, (RpM M s) ∧ ∀ v : Int32, (v.toInt = (ev_is s c.toInt i.toInt).1) → ∀ M' : zM, (RpM M' (ev_is s c.toInt i.toInt).2) → (fr0 M M') → K (some (.inl v)) M'
  | _ => False
theorem rv_X8_is : zrv sp_X8_is 8 2 := by
  intro kd as M K h
  unfold sp_X8_is at h
  split at h
  · exact ⟨_, _, rfl, h.1⟩
  · exact h.elim
theorem dd_X8_is_0 : decode cX8_is 0 = .ok (.aload_n 0, 1) := by decide +kernel
theorem dd_X8_is_1 : decode cX8_is 1 = .ok (.iload_n 1, 1) := by decide +kernel
theorem dd_X8_is_2 : decode cX8_is 2 = .ok (.iload_n 2, 1) := by decide +kernel
theorem dd_X8_is_3 : decode cX8_is 3 = .ok (.invokevirtual 109, 3) := by decide +kernel
theorem dd_X8_is_6 : decode cX8_is 6 = .ok (.ifCond .ne 10, 3) := by decide +kernel
theorem dd_X8_is_9 : decode cX8_is 9 = .ok (.aload_n 0, 1) := by decide +kernel
theorem dd_X8_is_10 : decode cX8_is 10 = .ok (.bipush (-2), 2) := by decide +kernel
theorem dd_X8_is_12 : decode cX8_is 12 = .ok (.invokevirtual 81, 3) := by decide +kernel
theorem dd_X8_is_15 : decode cX8_is 15 = .ok (.ireturn, 1) := by decide +kernel
theorem dd_X8_is_16 : decode cX8_is 16 = .ok (.aload_n 0, 1) := by decide +kernel
theorem dd_X8_is_17 : decode cX8_is 17 = .ok (.invokevirtual 145, 3) := by decide +kernel
theorem dd_X8_is_20 : decode cX8_is 20 = .ok (.aload_n 0, 1) := by decide +kernel
theorem dd_X8_is_21 : decode cX8_is 21 = .ok (.iload_n 1, 1) := by decide +kernel
theorem dd_X8_is_22 : decode cX8_is 22 = .ok (.iload_n 2, 1) := by decide +kernel
theorem dd_X8_is_23 : decode cX8_is 23 = .ok (.invokevirtual 202, 3) := by decide +kernel
theorem dd_X8_is_26 : decode cX8_is 26 = .ok (.ireturn, 1) := by decide +kernel
def tb_X8_is (kd : Nat → Nat) (K : zK) : zTab := [(0, zt_aload 0 1), (1, zt_iload 1 2), (2, zt_iload 2 3), (3, zt_call kd sp_X8_isLayer 3 6), (6, zt_if (fun x => ¬ x = 0) (fun x => x = 0) 16 9), (9, zt_aload 0 10), (10, zt_const (zI (-2)) 12), (12, zt_call kd sp_X8_bad 2 15), (15, zt_iret K), (16, zt_aload 0 17), (17, zt_call kd sp_X8_layHand 1 20), (20, zt_aload 0 21), (21, zt_iload 1 22), (22, zt_iload 2 23), (23, zt_call kd sp_X8_kindsOf 3 26), (26, zt_iret K)]
set_option maxRecDepth 20000 in
theorem tk_X8_is (d : Nat) (h_X8_isLayer : zMS 3 yX8_isLayer cX8_isLayer 3 (some .boolean) sp_X8_isLayer) (h_X8_bad : zMS 1 yX8_bad cX8_bad 2 (some .int) sp_X8_bad) (h_X8_layHand : zMS 1 yX8_layHand cX8_layHand 2 none sp_X8_layHand) (h_X8_kindsOf : zMS 6 yX8_kindsOf cX8_kindsOf 5 (some .int) sp_X8_kindsOf) : zTrue RX8 cX8_is 3 (some .int) (d + 7) (fun kd K => tb_X8_is kd K) := by
  intro p l e R s m args below meth c D cy A ad bl Qm K C0 hr hlocks hQ
  obtain ⟨hx, hb, hml, hown, hts, hK, hD, hA0, hN, hE, ⟨hR1, hR2⟩, hc1, hc2⟩ := id C0
  unfold tb_X8_is
  refine List.forall_mem_cons.mpr ⟨ok_aload_n hx hb rfl dd_X8_is_0, ?_⟩
  refine List.forall_mem_cons.mpr ⟨ok_iload_n hx hb rfl dd_X8_is_1, ?_⟩
  refine List.forall_mem_cons.mpr ⟨ok_iload_n hx hb rfl dd_X8_is_2, ?_⟩
  refine List.forall_mem_cons.mpr ⟨ok_callV (n := 2) zc_X8 rv_X8_isLayer C0 (h_X8_isLayer (d + 6) (by omega)) (by decide) wd_988 wd_985 wd_987 wd_66 wd_107 ⟨rfl, by decide +kernel, by decide +kernel, by decide +kernel⟩ dd_X8_is_3, ?_⟩
  refine List.forall_mem_cons.mpr ⟨ok_if_ne hx hb dd_X8_is_6 (by decide), ?_⟩
  refine List.forall_mem_cons.mpr ⟨ok_aload_n hx hb rfl dd_X8_is_9, ?_⟩
  refine List.forall_mem_cons.mpr ⟨ok_bipush hx hb dd_X8_is_10 (by decide), ?_⟩
  refine List.forall_mem_cons.mpr ⟨ok_callV (n := 1) zc_X8 rv_X8_bad C0 (h_X8_bad (d + 6) (by omega)) (by decide) wd_936 wd_933 wd_935 wd_62 wd_107 ⟨rfl, by decide +kernel, by decide +kernel, by decide +kernel⟩ dd_X8_is_12, ?_⟩
  refine List.forall_mem_cons.mpr ⟨ok_iret hx hb hr hlocks hQ dd_X8_is_15, ?_⟩
  refine List.forall_mem_cons.mpr ⟨ok_aload_n hx hb rfl dd_X8_is_16, ?_⟩
  refine List.forall_mem_cons.mpr ⟨ok_callV (n := 0) zc_X8 rv_X8_layHand C0 (h_X8_layHand (d + 6) (by omega)) (by decide) wd_1000 wd_997 wd_999 wd_67 wd_107 ⟨rfl, by decide +kernel, by decide +kernel, by decide +kernel⟩ dd_X8_is_17, ?_⟩
  refine List.forall_mem_cons.mpr ⟨ok_aload_n hx hb rfl dd_X8_is_20, ?_⟩
  refine List.forall_mem_cons.mpr ⟨ok_iload_n hx hb rfl dd_X8_is_21, ?_⟩
  refine List.forall_mem_cons.mpr ⟨ok_iload_n hx hb rfl dd_X8_is_22, ?_⟩
  refine List.forall_mem_cons.mpr ⟨ok_callV (n := 2) zc_X8 rv_X8_kindsOf C0 (h_X8_kindsOf (d + 6) (by omega)) (by decide) wd_1114 wd_1111 wd_1113 wd_84 wd_107 ⟨rfl, by decide +kernel, by decide +kernel, by decide +kernel⟩ dd_X8_is_23, ?_⟩
  refine List.forall_mem_cons.mpr ⟨ok_iret hx hb hr hlocks hQ dd_X8_is_26, ?_⟩
  exact fun _ h => absurd h List.not_mem_nil
set_option maxRecDepth 100000 in
theorem vc_X8_is_0 {kd : Nat → Nat} {K : zK} {X : zX} (hX : ∀ (n pc : Nat) (ls : zLS) (st : List zV) (M : zM), zrun (tb_X8_is kd K) [] n X pc ls st M → X pc ls st M) {c : Int32} {i : Int32} {M : zM} (hk0 : kd 9 = 8) (h : ∃ a1 : Sk, (RpF (M.1 9 1) a1) ∧ ∀ v1 : Int32, (v1 = zp ((sk_at a1 c.toInt i.toInt).isSome = true)) → ((¬ v1 = 0) → ∀ f2 : Nat → Int32, (∀ j9, j9 < 127 → f2 j9 = M.1 9 1 j9) → ∀ M2 : zM, (M2 = zmw M 9 5 f2) → ∃ s3 : St, (RpM M2 s3) ∧ (RpF (M2.1 9 5) s3.1.1) ∧ ∃ l3 : Ly, (sk_at s3.1.1 c.toInt i.toInt = some l3) ∧ ∀ v3 : Int32, (v3.toInt = seFit s3.1.2.2 l3 (sk_at s3.1.1 c.toInt (i.toInt + 1)) c.toInt i.toInt) → K (some (zI (v3))) M2) ∧ ((v1 = 0) → ∀ v4 : Int32, (v4 = (-2 : Int32)) → ∀ M4 : zM, (M4 = zmw M 9 4 (upd (M.1 9 4) 0 (M.1 9 4 0 + 1))) → K (some (zI (v4))) M4)) : X 0 [some (zR 9 0), some (zI (c)), some (zI (i))] [] M := hX 13 0 _ [] M (show (kd 9 = 8) ∧ ∃ a1 : Sk, (RpF (M.1 9 1) a1) ∧ ∀ v1 : Int32, (v1 = zp ((sk_at a1 c.toInt i.toInt).isSome = true)) → ((¬ v1 = 0) → (kd 9 = 8) ∧ ∀ f2 : Nat → Int32, (∀ j9, j9 < 127 → f2 j9 = M.1 9 1 j9) → ∀ M2 : zM, (M2 = zmw M 9 5 f2) → (kd 9 = 8) ∧ ∃ s3 : St, (RpM M2 s3) ∧ (RpF (M2.1 9 5) s3.1.1) ∧ ∃ l3 : Ly, (sk_at s3.1.1 c.toInt i.toInt = some l3) ∧ ∀ v3 : Int32, (v3.toInt = seFit s3.1.2.2 l3 (sk_at s3.1.1 c.toInt (i.toInt + 1)) c.toInt i.toInt) → K (some (zI (v3))) M2) ∧ ((v1 = 0) → (kd 9 = 8) ∧ ∀ v4 : Int32, (v4 = (-2 : Int32)) → ∀ M4 : zM, (M4 = zmw M 9 4 (upd (M.1 9 4) 0 (M.1 9 4 0 + 1))) → K (some (zI (v4))) M4) from ⟨hk0, h.elim (fun a1 h => ⟨a1, ⟨h.1, have h := h.2; fun v1 => have h := h v1; fun q => have h := h q; ⟨fun q => have h := h.1 q; ⟨hk0, fun f2 => have h := h f2; fun q => have h := h q; fun M2 => have h := h M2; fun q => have h := h q; ⟨hk0, h.elim (fun s3 h => ⟨s3, ⟨h.1, have h := h.2; ⟨h.1, have h := h.2; h.elim (fun l3 h => ⟨l3, ⟨h.1, have h := h.2; fun v3 => have h := h v3; fun q => have h := h q; h⟩⟩)⟩⟩⟩)⟩⟩, fun q => have h := h.2 q; ⟨hk0, fun v4 => have h := h v4; fun q => have h := h q; fun M4 => have h := h M4; fun q => have h := h q; h⟩⟩⟩⟩)⟩)
def sp_X8_bits : zSpec := fun kd as M K => match as with
  | [.inl x] => (0 ≤ x.toInt ∧ x.toInt < 64) ∧ ∀ v : Int32, (v.toInt = pc6 x.toInt) → K (some (.inl v)) M
  | _ => False
theorem dd_X8_bits_0 : decode cX8_bits 0 = .ok (.iconst 0, 1) := by decide +kernel
theorem dd_X8_bits_1 : decode cX8_bits 1 = .ok (.istore_n 1, 1) := by decide +kernel
theorem dd_X8_bits_2 : decode cX8_bits 2 = .ok (.iload_n 0, 1) := by decide +kernel
theorem dd_X8_bits_3 : decode cX8_bits 3 = .ok (.istore_n 2, 1) := by decide +kernel
theorem dd_X8_bits_4 : decode cX8_bits 4 = .ok (.iload_n 2, 1) := by decide +kernel
theorem dd_X8_bits_5 : decode cX8_bits 5 = .ok (.ifCond .le 16, 3) := by decide +kernel
theorem dd_X8_bits_8 : decode cX8_bits 8 = .ok (.iload_n 1, 1) := by decide +kernel
theorem dd_X8_bits_9 : decode cX8_bits 9 = .ok (.iload_n 2, 1) := by decide +kernel
theorem dd_X8_bits_10 : decode cX8_bits 10 = .ok (.iconst 1, 1) := by decide +kernel
theorem dd_X8_bits_11 : decode cX8_bits 11 = .ok (.iand, 1) := by decide +kernel
theorem dd_X8_bits_12 : decode cX8_bits 12 = .ok (.iadd, 1) := by decide +kernel
theorem dd_X8_bits_13 : decode cX8_bits 13 = .ok (.istore_n 1, 1) := by decide +kernel
theorem dd_X8_bits_14 : decode cX8_bits 14 = .ok (.iload_n 2, 1) := by decide +kernel
theorem dd_X8_bits_15 : decode cX8_bits 15 = .ok (.iconst 1, 1) := by decide +kernel
theorem dd_X8_bits_16 : decode cX8_bits 16 = .ok (.ishr, 1) := by decide +kernel
theorem dd_X8_bits_17 : decode cX8_bits 17 = .ok (.istore_n 2, 1) := by decide +kernel
theorem dd_X8_bits_18 : decode cX8_bits 18 = .ok (.goto (-14), 3) := by decide +kernel
theorem dd_X8_bits_21 : decode cX8_bits 21 = .ok (.iload_n 1, 1) := by decide +kernel
theorem dd_X8_bits_22 : decode cX8_bits 22 = .ok (.ireturn, 1) := by decide +kernel
def tb_X8_bits (kd : Nat → Nat) (K : zK) : zTab := [(0, zt_const (zI 0) 1), (1, zt_istore 1 2), (2, zt_iload 0 3), (3, zt_istore 2 4), (4, zt_iload 2 5), (5, zt_if (fun x => x ≤ 0) (fun x => ¬ x ≤ 0) 21 8), (8, zt_iload 1 9), (9, zt_iload 2 10), (10, zt_const (zI 1) 11), (11, zt_bin (fun x y => x &&& y) 12), (12, zt_bin (fun x y => x + y) 13), (13, zt_istore 1 14), (14, zt_iload 2 15), (15, zt_const (zI 1) 16), (16, zt_bin (fun x y => x >>> (y &&& 31)) 17), (17, zt_istore 2 18), (18, zt_goto 4), (21, zt_iload 1 22), (22, zt_iret K)]
set_option maxRecDepth 20000 in
theorem tk_X8_bits (d : Nat)  : zTrue RX8 cX8_bits 3 (some .int) (d + 1) (fun kd K => tb_X8_bits kd K) := by
  intro p l e R s m args below meth c D cy A ad bl Qm K C0 hr hlocks hQ
  obtain ⟨hx, hb, hml, hown, hts, hK, hD, hA0, hN, hE, ⟨hR1, hR2⟩, hc1, hc2⟩ := id C0
  unfold tb_X8_bits
  refine List.forall_mem_cons.mpr ⟨ok_iconst hx hb dd_X8_bits_0 (by decide), ?_⟩
  refine List.forall_mem_cons.mpr ⟨ok_istore_n hx hb rfl dd_X8_bits_1, ?_⟩
  refine List.forall_mem_cons.mpr ⟨ok_iload_n hx hb rfl dd_X8_bits_2, ?_⟩
  refine List.forall_mem_cons.mpr ⟨ok_istore_n hx hb rfl dd_X8_bits_3, ?_⟩
  refine List.forall_mem_cons.mpr ⟨ok_iload_n hx hb rfl dd_X8_bits_4, ?_⟩
  refine List.forall_mem_cons.mpr ⟨ok_if_le hx hb dd_X8_bits_5 (by decide), ?_⟩
  refine List.forall_mem_cons.mpr ⟨ok_iload_n hx hb rfl dd_X8_bits_8, ?_⟩
  refine List.forall_mem_cons.mpr ⟨ok_iload_n hx hb rfl dd_X8_bits_9, ?_⟩
  refine List.forall_mem_cons.mpr ⟨ok_iconst hx hb dd_X8_bits_10 (by decide), ?_⟩
  refine List.forall_mem_cons.mpr ⟨ok_iand hx hb dd_X8_bits_11, ?_⟩
  refine List.forall_mem_cons.mpr ⟨ok_iadd hx hb dd_X8_bits_12, ?_⟩
  refine List.forall_mem_cons.mpr ⟨ok_istore_n hx hb rfl dd_X8_bits_13, ?_⟩
  refine List.forall_mem_cons.mpr ⟨ok_iload_n hx hb rfl dd_X8_bits_14, ?_⟩
  refine List.forall_mem_cons.mpr ⟨ok_iconst hx hb dd_X8_bits_15 (by decide), ?_⟩
  refine List.forall_mem_cons.mpr ⟨ok_ishr hx hb dd_X8_bits_16, ?_⟩
  refine List.forall_mem_cons.mpr ⟨ok_istore_n hx hb rfl dd_X8_bits_17, ?_⟩
  refine List.forall_mem_cons.mpr ⟨ok_goto hx hb dd_X8_bits_18 (by decide), ?_⟩
  refine List.forall_mem_cons.mpr ⟨ok_iload_n hx hb rfl dd_X8_bits_21, ?_⟩
  refine List.forall_mem_cons.mpr ⟨ok_iret hx hb hr hlocks hQ dd_X8_bits_22, ?_⟩
  exact fun _ h => absurd h List.not_mem_nil
set_option maxRecDepth 100000 in
theorem vc_X8_bits_0 {kd : Nat → Nat} {K : zK} {X : zX} (hX : ∀ (n pc : Nat) (ls : zLS) (st : List zV) (M : zM), zrun (tb_X8_bits kd K) [(4, [])] n X pc ls st M → X pc ls st M) {x : Int32} {M : zM}  (h : X 4 [some (zI (x)), some (zI ((0 : Int32))), some (zI (x))] [] M) : X 0 [some (zI (x)), none, none] [] M := hX 6 0 _ [] M (show X 4 [some (zI (x)), some (zI ((0 : Int32))), some (zI (x))] [] M from h)
set_option maxRecDepth 100000 in
theorem vc_X8_bits_4 {kd : Nat → Nat} {K : zK} {X : zX} (hX : ∀ (n pc : Nat) (ls : zLS) (st : List zV) (M : zM), zrun (tb_X8_bits kd K) [(4, [])] n X pc ls st M → X pc ls st M) {x : Int32} {n : Int32} {p : Int32} {M : zM}  (h : ((p ≤ 0) → K (some (zI (n))) M) ∧ ((¬ p ≤ 0) → X 4 [some (zI (x)), some (zI (n + (p &&& (1 : Int32)))), some (zI (p >>> ((1 : Int32) &&& 31)))] [] M)) : X 4 [some (zI (x)), some (zI (n)), some (zI (p))] [] M := hX 15 4 _ [] M (show ((p ≤ 0) → K (some (zI (n))) M) ∧ ((¬ p ≤ 0) → X 4 [some (zI (x)), some (zI (n + (p &&& (1 : Int32)))), some (zI (p >>> ((1 : Int32) &&& 31)))] [] M) from ⟨fun q => have h := h.1 q; h, fun q => have h := h.2 q; h⟩)
def sp_X8_look : zSpec := fun kd as M K => match as with
  | [.inr (.inr (.inl (9, 0))), .inl c, .inl i] => (kd 9 = 8) ∧ ∃ s : St, (RpM M s) ∧ ∀ v : Int32, (er_look s c.toInt i.toInt v.toInt) → ∀ M' : zM, (RpM M' (es_ends s c.toInt i.toInt)) → (fr0 M M') → K (some (.inl v)) M'
  | _ => False
theorem rv_X8_look : zrv sp_X8_look 8 2 := by
  intro kd as M K h
  unfold sp_X8_look at h
  split at h
  · exact ⟨_, _, rfl, h.1⟩
  · exact h.elim
theorem dd_X8_look_0 : decode cX8_look 0 = .ok (.aload_n 0, 1) := by decide +kernel
theorem dd_X8_look_1 : decode cX8_look 1 = .ok (.iload_n 1, 1) := by decide +kernel
theorem dd_X8_look_2 : decode cX8_look 2 = .ok (.iload_n 2, 1) := by decide +kernel
theorem dd_X8_look_3 : decode cX8_look 3 = .ok (.invokevirtual 109, 3) := by decide +kernel
theorem dd_X8_look_6 : decode cX8_look 6 = .ok (.ifCond .ne 10, 3) := by decide +kernel
theorem dd_X8_look_9 : decode cX8_look 9 = .ok (.aload_n 0, 1) := by decide +kernel
theorem dd_X8_look_10 : decode cX8_look 10 = .ok (.bipush (-2), 2) := by decide +kernel
theorem dd_X8_look_12 : decode cX8_look 12 = .ok (.invokevirtual 81, 3) := by decide +kernel
theorem dd_X8_look_15 : decode cX8_look 15 = .ok (.ireturn, 1) := by decide +kernel
theorem dd_X8_look_16 : decode cX8_look 16 = .ok (.aload_n 0, 1) := by decide +kernel
theorem dd_X8_look_17 : decode cX8_look 17 = .ok (.invokevirtual 145, 3) := by decide +kernel
theorem dd_X8_look_20 : decode cX8_look 20 = .ok (.aload_n 0, 1) := by decide +kernel
theorem dd_X8_look_21 : decode cX8_look 21 = .ok (.iload_n 1, 1) := by decide +kernel
theorem dd_X8_look_22 : decode cX8_look 22 = .ok (.iload_n 2, 1) := by decide +kernel
theorem dd_X8_look_23 : decode cX8_look 23 = .ok (.invokevirtual 202, 3) := by decide +kernel
theorem dd_X8_look_26 : decode cX8_look 26 = .ok (.istore_n 3, 1) := by decide +kernel
theorem dd_X8_look_27 : decode cX8_look 27 = .ok (.iconst (-1), 1) := by decide +kernel
theorem dd_X8_look_28 : decode cX8_look 28 = .ok (.istore 4, 2) := by decide +kernel
theorem dd_X8_look_30 : decode cX8_look 30 = .ok (.ldc 205, 2) := by decide +kernel
theorem dd_X8_look_32 : decode cX8_look 32 = .ok (.istore 5, 2) := by decide +kernel
theorem dd_X8_look_34 : decode cX8_look 34 = .ok (.aload_n 0, 1) := by decide +kernel
theorem dd_X8_look_35 : decode cX8_look 35 = .ok (.getfield 7, 3) := by decide +kernel
theorem dd_X8_look_38 : decode cX8_look 38 = .ok (.bipush 126, 2) := by decide +kernel
theorem dd_X8_look_40 : decode cX8_look 40 = .ok (.iaload, 1) := by decide +kernel
theorem dd_X8_look_41 : decode cX8_look 41 = .ok (.istore 6, 2) := by decide +kernel
theorem dd_X8_look_43 : decode cX8_look 43 = .ok (.iload 6, 2) := by decide +kernel
theorem dd_X8_look_45 : decode cX8_look 45 = .ok (.aload_n 0, 1) := by decide +kernel
theorem dd_X8_look_46 : decode cX8_look 46 = .ok (.getfield 7, 3) := by decide +kernel
theorem dd_X8_look_49 : decode cX8_look 49 = .ok (.bipush 126, 2) := by decide +kernel
theorem dd_X8_look_51 : decode cX8_look 51 = .ok (.iaload, 1) := by decide +kernel
theorem dd_X8_look_52 : decode cX8_look 52 = .ok (.bipush 100, 2) := by decide +kernel
theorem dd_X8_look_54 : decode cX8_look 54 = .ok (.iadd, 1) := by decide +kernel
theorem dd_X8_look_55 : decode cX8_look 55 = .ok (.if_icmp .ge 130, 3) := by decide +kernel
theorem dd_X8_look_58 : decode cX8_look 58 = .ok (.iload 6, 2) := by decide +kernel
theorem dd_X8_look_60 : decode cX8_look 60 = .ok (.sipush 999, 3) := by decide +kernel
theorem dd_X8_look_63 : decode cX8_look 63 = .ok (.if_icmp .gt 122, 3) := by decide +kernel
theorem dd_X8_look_66 : decode cX8_look 66 = .ok (.iload_n 3, 1) := by decide +kernel
theorem dd_X8_look_67 : decode cX8_look 67 = .ok (.ifCond .le 118, 3) := by decide +kernel
theorem dd_X8_look_70 : decode cX8_look 70 = .ok (.iconst 0, 1) := by decide +kernel
theorem dd_X8_look_71 : decode cX8_look 71 = .ok (.istore 7, 2) := by decide +kernel
theorem dd_X8_look_73 : decode cX8_look 73 = .ok (.iconst 0, 1) := by decide +kernel
theorem dd_X8_look_74 : decode cX8_look 74 = .ok (.istore 8, 2) := by decide +kernel
theorem dd_X8_look_76 : decode cX8_look 76 = .ok (.iload 8, 2) := by decide +kernel
theorem dd_X8_look_78 : decode cX8_look 78 = .ok (.bipush 6, 2) := by decide +kernel
theorem dd_X8_look_80 : decode cX8_look 80 = .ok (.if_icmp .ge 42, 3) := by decide +kernel
theorem dd_X8_look_83 : decode cX8_look 83 = .ok (.iload 7, 2) := by decide +kernel
theorem dd_X8_look_85 : decode cX8_look 85 = .ok (.iload_n 3, 1) := by decide +kernel
theorem dd_X8_look_86 : decode cX8_look 86 = .ok (.iload 8, 2) := by decide +kernel
theorem dd_X8_look_88 : decode cX8_look 88 = .ok (.ishr, 1) := by decide +kernel
theorem dd_X8_look_89 : decode cX8_look 89 = .ok (.iconst 1, 1) := by decide +kernel
theorem dd_X8_look_90 : decode cX8_look 90 = .ok (.iand, 1) := by decide +kernel
theorem dd_X8_look_91 : decode cX8_look 91 = .ok (.iconst 1, 1) := by decide +kernel
theorem dd_X8_look_92 : decode cX8_look 92 = .ok (.if_icmp .ne 20, 3) := by decide +kernel
theorem dd_X8_look_95 : decode cX8_look 95 = .ok (.aload_n 0, 1) := by decide +kernel
theorem dd_X8_look_96 : decode cX8_look 96 = .ok (.iload_n 1, 1) := by decide +kernel
theorem dd_X8_look_97 : decode cX8_look 97 = .ok (.iload_n 2, 1) := by decide +kernel
theorem dd_X8_look_98 : decode cX8_look 98 = .ok (.iload 6, 2) := by decide +kernel
theorem dd_X8_look_100 : decode cX8_look 100 = .ok (.iload 8, 2) := by decide +kernel
theorem dd_X8_look_102 : decode cX8_look 102 = .ok (.invokevirtual 119, 3) := by decide +kernel
theorem dd_X8_look_105 : decode cX8_look 105 = .ok (.ifCond .eq 7, 3) := by decide +kernel
theorem dd_X8_look_108 : decode cX8_look 108 = .ok (.iconst 1, 1) := by decide +kernel
theorem dd_X8_look_109 : decode cX8_look 109 = .ok (.goto 4, 3) := by decide +kernel
theorem dd_X8_look_112 : decode cX8_look 112 = .ok (.iconst 0, 1) := by decide +kernel
theorem dd_X8_look_113 : decode cX8_look 113 = .ok (.iadd, 1) := by decide +kernel
theorem dd_X8_look_114 : decode cX8_look 114 = .ok (.istore 7, 2) := by decide +kernel
theorem dd_X8_look_116 : decode cX8_look 116 = .ok (.iinc 8 1, 3) := by decide +kernel
theorem dd_X8_look_119 : decode cX8_look 119 = .ok (.goto (-43), 3) := by decide +kernel
theorem dd_X8_look_122 : decode cX8_look 122 = .ok (.iconst 2, 1) := by decide +kernel
theorem dd_X8_look_123 : decode cX8_look 123 = .ok (.iload 7, 2) := by decide +kernel
theorem dd_X8_look_125 : decode cX8_look 125 = .ok (.imul, 1) := by decide +kernel
theorem dd_X8_look_126 : decode cX8_look 126 = .ok (.iload_n 3, 1) := by decide +kernel
theorem dd_X8_look_127 : decode cX8_look 127 = .ok (.invokestatic 206, 3) := by decide +kernel
theorem dd_X8_look_130 : decode cX8_look 130 = .ok (.if_icmp .le 8, 3) := by decide +kernel
theorem dd_X8_look_133 : decode cX8_look 133 = .ok (.iload 7, 2) := by decide +kernel
theorem dd_X8_look_135 : decode cX8_look 135 = .ok (.goto 10, 3) := by decide +kernel
theorem dd_X8_look_138 : decode cX8_look 138 = .ok (.iload_n 3, 1) := by decide +kernel
theorem dd_X8_look_139 : decode cX8_look 139 = .ok (.invokestatic 206, 3) := by decide +kernel
theorem dd_X8_look_142 : decode cX8_look 142 = .ok (.iload 7, 2) := by decide +kernel
theorem dd_X8_look_144 : decode cX8_look 144 = .ok (.isub, 1) := by decide +kernel
theorem dd_X8_look_145 : decode cX8_look 145 = .ok (.istore 8, 2) := by decide +kernel
theorem dd_X8_look_147 : decode cX8_look 147 = .ok (.iload 8, 2) := by decide +kernel
theorem dd_X8_look_149 : decode cX8_look 149 = .ok (.iload 5, 2) := by decide +kernel
theorem dd_X8_look_151 : decode cX8_look 151 = .ok (.if_icmp .ge 8, 3) := by decide +kernel
theorem dd_X8_look_154 : decode cX8_look 154 = .ok (.iload 6, 2) := by decide +kernel
theorem dd_X8_look_156 : decode cX8_look 156 = .ok (.goto 5, 3) := by decide +kernel
theorem dd_X8_look_159 : decode cX8_look 159 = .ok (.iload 4, 2) := by decide +kernel
theorem dd_X8_look_161 : decode cX8_look 161 = .ok (.istore 4, 2) := by decide +kernel
theorem dd_X8_look_163 : decode cX8_look 163 = .ok (.iload 8, 2) := by decide +kernel
theorem dd_X8_look_165 : decode cX8_look 165 = .ok (.iload 5, 2) := by decide +kernel
theorem dd_X8_look_167 : decode cX8_look 167 = .ok (.if_icmp .ge 8, 3) := by decide +kernel
theorem dd_X8_look_170 : decode cX8_look 170 = .ok (.iload 8, 2) := by decide +kernel
theorem dd_X8_look_172 : decode cX8_look 172 = .ok (.goto 5, 3) := by decide +kernel
theorem dd_X8_look_175 : decode cX8_look 175 = .ok (.iload 5, 2) := by decide +kernel
theorem dd_X8_look_177 : decode cX8_look 177 = .ok (.istore 5, 2) := by decide +kernel
theorem dd_X8_look_179 : decode cX8_look 179 = .ok (.iinc 6 1, 3) := by decide +kernel
theorem dd_X8_look_182 : decode cX8_look 182 = .ok (.goto (-139), 3) := by decide +kernel
theorem dd_X8_look_185 : decode cX8_look 185 = .ok (.iload 4, 2) := by decide +kernel
theorem dd_X8_look_187 : decode cX8_look 187 = .ok (.ireturn, 1) := by decide +kernel
def tb_X8_look (kd : Nat → Nat) (K : zK) : zTab := [(0, zt_aload 0 1), (1, zt_iload 1 2), (2, zt_iload 2 3), (3, zt_call kd sp_X8_isLayer 3 6), (6, zt_if (fun x => ¬ x = 0) (fun x => x = 0) 16 9), (9, zt_aload 0 10), (10, zt_const (zI (-2)) 12), (12, zt_call kd sp_X8_bad 2 15), (15, zt_iret K), (16, zt_aload 0 17), (17, zt_call kd sp_X8_layHand 1 20), (20, zt_aload 0 21), (21, zt_iload 1 22), (22, zt_iload 2 23), (23, zt_call kd sp_X8_kindsOf 3 26), (26, zt_istore 3 27), (27, zt_const (zI (-1)) 28), (28, zt_istore 4 30), (30, zt_const (zI 1000000) 32), (32, zt_istore 5 34), (34, zt_aload 0 35), (35, zt_getR kd 8 0 1 38), (38, zt_const (zI 126) 40), (40, zt_ald kd 0 41), (41, zt_istore 6 43), (43, zt_iload 6 45), (45, zt_aload 0 46), (46, zt_getR kd 8 0 1 49), (49, zt_const (zI 126) 51), (51, zt_ald kd 0 52), (52, zt_const (zI 100) 54), (54, zt_bin (fun x y => x + y) 55), (55, zt_icmp (fun x y => y ≤ x) (fun x y => ¬ y ≤ x) 185 58), (58, zt_iload 6 60), (60, zt_const (zI 999) 63), (63, zt_icmp (fun x y => y < x) (fun x y => ¬ y < x) 185 66), (66, zt_iload 3 67), (67, zt_if (fun x => x ≤ 0) (fun x => ¬ x ≤ 0) 185 70), (70, zt_const (zI 0) 71), (71, zt_istore 7 73), (73, zt_const (zI 0) 74), (74, zt_istore 8 76), (76, zt_iload 8 78), (78, zt_const (zI 6) 80), (80, zt_icmp (fun x y => y ≤ x) (fun x y => ¬ y ≤ x) 122 83), (83, zt_iload 7 85), (85, zt_iload 3 86), (86, zt_iload 8 88), (88, zt_bin (fun x y => x >>> (y &&& 31)) 89), (89, zt_const (zI 1) 90), (90, zt_bin (fun x y => x &&& y) 91), (91, zt_const (zI 1) 92), (92, zt_icmp (fun x y => ¬ x = y) (fun x y => x = y) 112 95), (95, zt_aload 0 96), (96, zt_iload 1 97), (97, zt_iload 2 98), (98, zt_iload 6 100), (100, zt_iload 8 102), (102, zt_call kd sp_X8_bindsAs 5 105), (105, zt_if (fun x => x = 0) (fun x => ¬ x = 0) 112 108), (108, zt_const (zI 1) 109), (109, zt_goto 113), (112, zt_const (zI 0) 113), (113, zt_bin (fun x y => x + y) 114), (114, zt_istore 7 116), (116, zt_iinc 8 1 119), (119, zt_goto 76), (122, zt_const (zI 2) 123), (123, zt_iload 7 125), (125, zt_bin (fun x y => x * y) 126), (126, zt_iload 3 127), (127, zt_call kd sp_X8_bits 1 130), (130, zt_icmp (fun x y => x ≤ y) (fun x y => ¬ x ≤ y) 138 133), (133, zt_iload 7 135), (135, zt_goto 145), (138, zt_iload 3 139), (139, zt_call kd sp_X8_bits 1 142), (142, zt_iload 7 144), (144, zt_bin (fun x y => x - y) 145), (145, zt_istore 8 147), (147, zt_iload 8 149), (149, zt_iload 5 151), (151, zt_icmp (fun x y => y ≤ x) (fun x y => ¬ y ≤ x) 159 154), (154, zt_iload 6 156), (156, zt_goto 161), (159, zt_iload 4 161), (161, zt_istore 4 163), (163, zt_iload 8 165), (165, zt_iload 5 167), (167, zt_icmp (fun x y => y ≤ x) (fun x y => ¬ y ≤ x) 175 170), (170, zt_iload 8 172), (172, zt_goto 177), (175, zt_iload 5 177), (177, zt_istore 5 179), (179, zt_iinc 6 1 182), (182, zt_goto 43), (185, zt_iload 4 187), (187, zt_iret K)]
set_option maxRecDepth 20000 in
theorem tk_X8_look (d : Nat) (h_X8_isLayer : zMS 3 yX8_isLayer cX8_isLayer 3 (some .boolean) sp_X8_isLayer) (h_X8_bad : zMS 1 yX8_bad cX8_bad 2 (some .int) sp_X8_bad) (h_X8_layHand : zMS 1 yX8_layHand cX8_layHand 2 none sp_X8_layHand) (h_X8_kindsOf : zMS 6 yX8_kindsOf cX8_kindsOf 5 (some .int) sp_X8_kindsOf) (h_X8_bindsAs : zMS 4 yX8_bindsAs cX8_bindsAs 9 (some .boolean) sp_X8_bindsAs) (h_X8_bits : zMS 1 yX8_bits cX8_bits 3 (some .int) sp_X8_bits) : zTrue RX8 cX8_look 9 (some .int) (d + 7) (fun kd K => tb_X8_look kd K) := by
  intro p l e R s m args below meth c D cy A ad bl Qm K C0 hr hlocks hQ
  obtain ⟨hx, hb, hml, hown, hts, hK, hD, hA0, hN, hE, ⟨hR1, hR2⟩, hc1, hc2⟩ := id C0
  unfold tb_X8_look
  refine List.forall_mem_cons.mpr ⟨ok_aload_n hx hb rfl dd_X8_look_0, ?_⟩
  refine List.forall_mem_cons.mpr ⟨ok_iload_n hx hb rfl dd_X8_look_1, ?_⟩
  refine List.forall_mem_cons.mpr ⟨ok_iload_n hx hb rfl dd_X8_look_2, ?_⟩
  refine List.forall_mem_cons.mpr ⟨ok_callV (n := 2) zc_X8 rv_X8_isLayer C0 (h_X8_isLayer (d + 6) (by omega)) (by decide) wd_988 wd_985 wd_987 wd_66 wd_107 ⟨rfl, by decide +kernel, by decide +kernel, by decide +kernel⟩ dd_X8_look_3, ?_⟩
  refine List.forall_mem_cons.mpr ⟨ok_if_ne hx hb dd_X8_look_6 (by decide), ?_⟩
  refine List.forall_mem_cons.mpr ⟨ok_aload_n hx hb rfl dd_X8_look_9, ?_⟩
  refine List.forall_mem_cons.mpr ⟨ok_bipush hx hb dd_X8_look_10 (by decide), ?_⟩
  refine List.forall_mem_cons.mpr ⟨ok_callV (n := 1) zc_X8 rv_X8_bad C0 (h_X8_bad (d + 6) (by omega)) (by decide) wd_936 wd_933 wd_935 wd_62 wd_107 ⟨rfl, by decide +kernel, by decide +kernel, by decide +kernel⟩ dd_X8_look_12, ?_⟩
  refine List.forall_mem_cons.mpr ⟨ok_iret hx hb hr hlocks hQ dd_X8_look_15, ?_⟩
  refine List.forall_mem_cons.mpr ⟨ok_aload_n hx hb rfl dd_X8_look_16, ?_⟩
  refine List.forall_mem_cons.mpr ⟨ok_callV (n := 0) zc_X8 rv_X8_layHand C0 (h_X8_layHand (d + 6) (by omega)) (by decide) wd_1000 wd_997 wd_999 wd_67 wd_107 ⟨rfl, by decide +kernel, by decide +kernel, by decide +kernel⟩ dd_X8_look_17, ?_⟩
  refine List.forall_mem_cons.mpr ⟨ok_aload_n hx hb rfl dd_X8_look_20, ?_⟩
  refine List.forall_mem_cons.mpr ⟨ok_iload_n hx hb rfl dd_X8_look_21, ?_⟩
  refine List.forall_mem_cons.mpr ⟨ok_iload_n hx hb rfl dd_X8_look_22, ?_⟩
  refine List.forall_mem_cons.mpr ⟨ok_callV (n := 2) zc_X8 rv_X8_kindsOf C0 (h_X8_kindsOf (d + 6) (by omega)) (by decide) wd_1114 wd_1111 wd_1113 wd_84 wd_107 ⟨rfl, by decide +kernel, by decide +kernel, by decide +kernel⟩ dd_X8_look_23, ?_⟩
  refine List.forall_mem_cons.mpr ⟨ok_istore_n hx hb rfl dd_X8_look_26, ?_⟩
  refine List.forall_mem_cons.mpr ⟨ok_iconst hx hb dd_X8_look_27 (by decide), ?_⟩
  refine List.forall_mem_cons.mpr ⟨ok_istore hx hb dd_X8_look_28, ?_⟩
  refine List.forall_mem_cons.mpr ⟨ok_ldc hx hb hown (hts _ wd_1123) dd_X8_look_30, ?_⟩
  refine List.forall_mem_cons.mpr ⟨ok_istore hx hb dd_X8_look_32, ?_⟩
  refine List.forall_mem_cons.mpr ⟨ok_aload_n hx hb rfl dd_X8_look_34, ?_⟩
  refine List.forall_mem_cons.mpr ⟨ok_getR (j := 0) hx hb hts zi_X8 hown hK zc_X8 (by decide) rfl (fun t fl h => by cases h; rfl) (hts _ wd_840) dd_X8_look_35, ?_⟩
  refine List.forall_mem_cons.mpr ⟨ok_bipush hx hb dd_X8_look_38 (by decide), ?_⟩
  refine List.forall_mem_cons.mpr ⟨ok_ald (ty := 0) rfl hx hb hK (Or.inl ⟨rfl, rfl, dd_X8_look_40⟩), ?_⟩
  refine List.forall_mem_cons.mpr ⟨ok_istore hx hb dd_X8_look_41, ?_⟩
  refine List.forall_mem_cons.mpr ⟨ok_iload hx hb dd_X8_look_43, ?_⟩
  refine List.forall_mem_cons.mpr ⟨ok_aload_n hx hb rfl dd_X8_look_45, ?_⟩
  refine List.forall_mem_cons.mpr ⟨ok_getR (j := 0) hx hb hts zi_X8 hown hK zc_X8 (by decide) rfl (fun t fl h => by cases h; rfl) (hts _ wd_840) dd_X8_look_46, ?_⟩
  refine List.forall_mem_cons.mpr ⟨ok_bipush hx hb dd_X8_look_49 (by decide), ?_⟩
  refine List.forall_mem_cons.mpr ⟨ok_ald (ty := 0) rfl hx hb hK (Or.inl ⟨rfl, rfl, dd_X8_look_51⟩), ?_⟩
  refine List.forall_mem_cons.mpr ⟨ok_bipush hx hb dd_X8_look_52 (by decide), ?_⟩
  refine List.forall_mem_cons.mpr ⟨ok_iadd hx hb dd_X8_look_54, ?_⟩
  refine List.forall_mem_cons.mpr ⟨ok_icmp_ge hx hb dd_X8_look_55 (by decide), ?_⟩
  refine List.forall_mem_cons.mpr ⟨ok_iload hx hb dd_X8_look_58, ?_⟩
  refine List.forall_mem_cons.mpr ⟨ok_sipush hx hb dd_X8_look_60 (by decide), ?_⟩
  refine List.forall_mem_cons.mpr ⟨ok_icmp_gt hx hb dd_X8_look_63 (by decide), ?_⟩
  refine List.forall_mem_cons.mpr ⟨ok_iload_n hx hb rfl dd_X8_look_66, ?_⟩
  refine List.forall_mem_cons.mpr ⟨ok_if_le hx hb dd_X8_look_67 (by decide), ?_⟩
  refine List.forall_mem_cons.mpr ⟨ok_iconst hx hb dd_X8_look_70 (by decide), ?_⟩
  refine List.forall_mem_cons.mpr ⟨ok_istore hx hb dd_X8_look_71, ?_⟩
  refine List.forall_mem_cons.mpr ⟨ok_iconst hx hb dd_X8_look_73 (by decide), ?_⟩
  refine List.forall_mem_cons.mpr ⟨ok_istore hx hb dd_X8_look_74, ?_⟩
  refine List.forall_mem_cons.mpr ⟨ok_iload hx hb dd_X8_look_76, ?_⟩
  refine List.forall_mem_cons.mpr ⟨ok_bipush hx hb dd_X8_look_78 (by decide), ?_⟩
  refine List.forall_mem_cons.mpr ⟨ok_icmp_ge hx hb dd_X8_look_80 (by decide), ?_⟩
  refine List.forall_mem_cons.mpr ⟨ok_iload hx hb dd_X8_look_83, ?_⟩
  refine List.forall_mem_cons.mpr ⟨ok_iload_n hx hb rfl dd_X8_look_85, ?_⟩
  refine List.forall_mem_cons.mpr ⟨ok_iload hx hb dd_X8_look_86, ?_⟩
  refine List.forall_mem_cons.mpr ⟨ok_ishr hx hb dd_X8_look_88, ?_⟩
  refine List.forall_mem_cons.mpr ⟨ok_iconst hx hb dd_X8_look_89 (by decide), ?_⟩
  refine List.forall_mem_cons.mpr ⟨ok_iand hx hb dd_X8_look_90, ?_⟩
  refine List.forall_mem_cons.mpr ⟨ok_iconst hx hb dd_X8_look_91 (by decide), ?_⟩
  refine List.forall_mem_cons.mpr ⟨ok_icmp_ne hx hb dd_X8_look_92 (by decide), ?_⟩
  refine List.forall_mem_cons.mpr ⟨ok_aload_n hx hb rfl dd_X8_look_95, ?_⟩
  refine List.forall_mem_cons.mpr ⟨ok_iload_n hx hb rfl dd_X8_look_96, ?_⟩
  refine List.forall_mem_cons.mpr ⟨ok_iload_n hx hb rfl dd_X8_look_97, ?_⟩
  refine List.forall_mem_cons.mpr ⟨ok_iload hx hb dd_X8_look_98, ?_⟩
  refine List.forall_mem_cons.mpr ⟨ok_iload hx hb dd_X8_look_100, ?_⟩
  refine List.forall_mem_cons.mpr ⟨ok_callV (n := 4) zc_X8 rv_X8_bindsAs C0 (h_X8_bindsAs (d + 6) (by omega)) (by decide) wd_1012 wd_1009 wd_1011 wd_70 wd_107 ⟨rfl, by decide +kernel, by decide +kernel, by decide +kernel⟩ dd_X8_look_102, ?_⟩
  refine List.forall_mem_cons.mpr ⟨ok_if_eq hx hb dd_X8_look_105 (by decide), ?_⟩
  refine List.forall_mem_cons.mpr ⟨ok_iconst hx hb dd_X8_look_108 (by decide), ?_⟩
  refine List.forall_mem_cons.mpr ⟨ok_goto hx hb dd_X8_look_109 (by decide), ?_⟩
  refine List.forall_mem_cons.mpr ⟨ok_iconst hx hb dd_X8_look_112 (by decide), ?_⟩
  refine List.forall_mem_cons.mpr ⟨ok_iadd hx hb dd_X8_look_113, ?_⟩
  refine List.forall_mem_cons.mpr ⟨ok_istore hx hb dd_X8_look_114, ?_⟩
  refine List.forall_mem_cons.mpr ⟨ok_iinc hx hb dd_X8_look_116 (by decide), ?_⟩
  refine List.forall_mem_cons.mpr ⟨ok_goto hx hb dd_X8_look_119 (by decide), ?_⟩
  refine List.forall_mem_cons.mpr ⟨ok_iconst hx hb dd_X8_look_122 (by decide), ?_⟩
  refine List.forall_mem_cons.mpr ⟨ok_iload hx hb dd_X8_look_123, ?_⟩
  refine List.forall_mem_cons.mpr ⟨ok_imul hx hb dd_X8_look_125, ?_⟩
  refine List.forall_mem_cons.mpr ⟨ok_iload_n hx hb rfl dd_X8_look_126, ?_⟩
  refine List.forall_mem_cons.mpr ⟨ok_callS (n := 1) C0 (h_X8_bits (d + 6) (by omega)) (by decide) wd_1126 wd_1124 wd_1125 wd_107 ⟨by decide +kernel, by decide +kernel, by decide +kernel⟩ dd_X8_look_127, ?_⟩
  refine List.forall_mem_cons.mpr ⟨ok_icmp_le hx hb dd_X8_look_130 (by decide), ?_⟩
  refine List.forall_mem_cons.mpr ⟨ok_iload hx hb dd_X8_look_133, ?_⟩
  refine List.forall_mem_cons.mpr ⟨ok_goto hx hb dd_X8_look_135 (by decide), ?_⟩
  refine List.forall_mem_cons.mpr ⟨ok_iload_n hx hb rfl dd_X8_look_138, ?_⟩
  refine List.forall_mem_cons.mpr ⟨ok_callS (n := 1) C0 (h_X8_bits (d + 6) (by omega)) (by decide) wd_1126 wd_1124 wd_1125 wd_107 ⟨by decide +kernel, by decide +kernel, by decide +kernel⟩ dd_X8_look_139, ?_⟩
  refine List.forall_mem_cons.mpr ⟨ok_iload hx hb dd_X8_look_142, ?_⟩
  refine List.forall_mem_cons.mpr ⟨ok_isub hx hb dd_X8_look_144, ?_⟩
  refine List.forall_mem_cons.mpr ⟨ok_istore hx hb dd_X8_look_145, ?_⟩
  refine List.forall_mem_cons.mpr ⟨ok_iload hx hb dd_X8_look_147, ?_⟩
  refine List.forall_mem_cons.mpr ⟨ok_iload hx hb dd_X8_look_149, ?_⟩
  refine List.forall_mem_cons.mpr ⟨ok_icmp_ge hx hb dd_X8_look_151 (by decide), ?_⟩
  refine List.forall_mem_cons.mpr ⟨ok_iload hx hb dd_X8_look_154, ?_⟩
  refine List.forall_mem_cons.mpr ⟨ok_goto hx hb dd_X8_look_156 (by decide), ?_⟩
  refine List.forall_mem_cons.mpr ⟨ok_iload hx hb dd_X8_look_159, ?_⟩
  refine List.forall_mem_cons.mpr ⟨ok_istore hx hb dd_X8_look_161, ?_⟩
  refine List.forall_mem_cons.mpr ⟨ok_iload hx hb dd_X8_look_163, ?_⟩
  refine List.forall_mem_cons.mpr ⟨ok_iload hx hb dd_X8_look_165, ?_⟩
  refine List.forall_mem_cons.mpr ⟨ok_icmp_ge hx hb dd_X8_look_167 (by decide), ?_⟩
  refine List.forall_mem_cons.mpr ⟨ok_iload hx hb dd_X8_look_170, ?_⟩
  refine List.forall_mem_cons.mpr ⟨ok_goto hx hb dd_X8_look_172 (by decide), ?_⟩
  refine List.forall_mem_cons.mpr ⟨ok_iload hx hb dd_X8_look_175, ?_⟩
  refine List.forall_mem_cons.mpr ⟨ok_istore hx hb dd_X8_look_177, ?_⟩
  refine List.forall_mem_cons.mpr ⟨ok_iinc hx hb dd_X8_look_179 (by decide), ?_⟩
  refine List.forall_mem_cons.mpr ⟨ok_goto hx hb dd_X8_look_182 (by decide), ?_⟩
  refine List.forall_mem_cons.mpr ⟨ok_iload hx hb dd_X8_look_185, ?_⟩
  refine List.forall_mem_cons.mpr ⟨ok_iret hx hb hr hlocks hQ dd_X8_look_187, ?_⟩
  exact fun _ h => absurd h List.not_mem_nil
set_option maxRecDepth 100000 in
theorem vc_X8_look_0 {kd : Nat → Nat} {K : zK} {X : zX} (hX : ∀ (n pc : Nat) (ls : zLS) (st : List zV) (M : zM), zrun (tb_X8_look kd K) [(43, [7, 8]), (76, [])] n X pc ls st M → X pc ls st M) {c : Int32} {i : Int32} {M : zM} (hk0 : kd 9 = 8) (h : ∃ a1 : Sk, (RpF (M.1 9 1) a1) ∧ ∀ v1 : Int32, (v1 = zp ((sk_at a1 c.toInt i.toInt).isSome = true)) → ((¬ v1 = 0) → ∀ f2 : Nat → Int32, (∀ j9, j9 < 127 → f2 j9 = M.1 9 1 j9) → ∀ M2 : zM, (M2 = zmw M 9 5 f2) → ∃ s3 : St, (RpM M2 s3) ∧ (RpF (M2.1 9 5) s3.1.1) ∧ ∃ l3 : Ly, (sk_at s3.1.1 c.toInt i.toInt = some l3) ∧ ∀ v3 : Int32, (v3.toInt = seFit s3.1.2.2 l3 (sk_at s3.1.1 c.toInt (i.toInt + 1)) c.toInt i.toInt) → (zin (kd 9) 1 0 (126 : Int32)) ∧ X 43 [some (zR 9 0), some (zI (c)), some (zI (i)), some (zI (v3)), some (zI ((-1 : Int32))), some (zI ((1000000 : Int32))), some (zI (M2.1 9 1 ((126 : Int32)).toNatClampNeg)), none, none] [] M2) ∧ ((v1 = 0) → ∀ v4 : Int32, (v4 = (-2 : Int32)) → ∀ M4 : zM, (M4 = zmw M 9 4 (upd (M.1 9 4) 0 (M.1 9 4 0 + 1))) → K (some (zI (v4))) M4)) : X 0 [some (zR 9 0), some (zI (c)), some (zI (i)), none, none, none, none, none, none] [] M := hX 23 0 _ [] M (show (kd 9 = 8) ∧ ∃ a1 : Sk, (RpF (M.1 9 1) a1) ∧ ∀ v1 : Int32, (v1 = zp ((sk_at a1 c.toInt i.toInt).isSome = true)) → ((¬ v1 = 0) → (kd 9 = 8) ∧ ∀ f2 : Nat → Int32, (∀ j9, j9 < 127 → f2 j9 = M.1 9 1 j9) → ∀ M2 : zM, (M2 = zmw M 9 5 f2) → (kd 9 = 8) ∧ ∃ s3 : St, (RpM M2 s3) ∧ (RpF (M2.1 9 5) s3.1.1) ∧ ∃ l3 : Ly, (sk_at s3.1.1 c.toInt i.toInt = some l3) ∧ ∀ v3 : Int32, (v3.toInt = seFit s3.1.2.2 l3 (sk_at s3.1.1 c.toInt (i.toInt + 1)) c.toInt i.toInt) → (kd 9 = 8) ∧ (zin (kd 9) 1 0 (126 : Int32)) ∧ X 43 [some (zR 9 0), some (zI (c)), some (zI (i)), some (zI (v3)), some (zI ((-1 : Int32))), some (zI ((1000000 : Int32))), some (zI (M2.1 9 1 ((126 : Int32)).toNatClampNeg)), none, none] [] M2) ∧ ((v1 = 0) → (kd 9 = 8) ∧ ∀ v4 : Int32, (v4 = (-2 : Int32)) → ∀ M4 : zM, (M4 = zmw M 9 4 (upd (M.1 9 4) 0 (M.1 9 4 0 + 1))) → K (some (zI (v4))) M4) from ⟨hk0, h.elim (fun a1 h => ⟨a1, ⟨h.1, have h := h.2; fun v1 => have h := h v1; fun q => have h := h q; ⟨fun q => have h := h.1 q; ⟨hk0, fun f2 => have h := h f2; fun q => have h := h q; fun M2 => have h := h M2; fun q => have h := h q; ⟨hk0, h.elim (fun s3 h => ⟨s3, ⟨h.1, have h := h.2; ⟨h.1, have h := h.2; h.elim (fun l3 h => ⟨l3, ⟨h.1, have h := h.2; fun v3 => have h := h v3; fun q => have h := h q; ⟨hk0, ⟨h.1, have h := h.2; h⟩⟩⟩⟩)⟩⟩⟩)⟩⟩, fun q => have h := h.2 q; ⟨hk0, fun v4 => have h := h v4; fun q => have h := h q; fun M4 => have h := h M4; fun q => have h := h q; h⟩⟩⟩⟩)⟩)
set_option maxRecDepth 100000 in
theorem vc_X8_look_43 {kd : Nat → Nat} {K : zK} {X : zX} (hX : ∀ (n pc : Nat) (ls : zLS) (st : List zV) (M : zM), zrun (tb_X8_look kd K) [(43, [7, 8]), (76, [])] n X pc ls st M → X pc ls st M) {c : Int32} {i : Int32} {n : Int32} {b : Int32} {e : Int32} {y : Int32} {M : zM} (hk0 : kd 9 = 8) (h : (zin (kd 9) 1 0 (126 : Int32)) ∧ ((((M.1 9 1 ((126 : Int32)).toNatClampNeg) + (100 : Int32)) ≤ y) → K (some (zI (b))) M) ∧ ((¬ ((M.1 9 1 ((126 : Int32)).toNatClampNeg) + (100 : Int32)) ≤ y) → (((999 : Int32) < y) → K (some (zI (b))) M) ∧ ((¬ (999 : Int32) < y) → ((n ≤ 0) → K (some (zI (b))) M) ∧ ((¬ n ≤ 0) → X 76 [some (zR 9 0), some (zI (c)), some (zI (i)), some (zI (n)), some (zI (b)), some (zI (e)), some (zI (y)), some (zI ((0 : Int32))), some (zI ((0 : Int32)))] [] M)))) : X 43 [some (zR 9 0), some (zI (c)), some (zI (i)), some (zI (n)), some (zI (b)), some (zI (e)), some (zI (y)), none, none] [] M := hX 19 43 _ [] M (show (kd 9 = 8) ∧ (zin (kd 9) 1 0 (126 : Int32)) ∧ ((((M.1 9 1 ((126 : Int32)).toNatClampNeg) + (100 : Int32)) ≤ y) → K (some (zI (b))) M) ∧ ((¬ ((M.1 9 1 ((126 : Int32)).toNatClampNeg) + (100 : Int32)) ≤ y) → (((999 : Int32) < y) → K (some (zI (b))) M) ∧ ((¬ (999 : Int32) < y) → ((n ≤ 0) → K (some (zI (b))) M) ∧ ((¬ n ≤ 0) → X 76 [some (zR 9 0), some (zI (c)), some (zI (i)), some (zI (n)), some (zI (b)), some (zI (e)), some (zI (y)), some (zI ((0 : Int32))), some (zI ((0 : Int32)))] [] M))) from ⟨hk0, ⟨h.1, have h := h.2; ⟨fun q => have h := h.1 q; h, fun q => have h := h.2 q; ⟨fun q => have h := h.1 q; h, fun q => have h := h.2 q; ⟨fun q => have h := h.1 q; h, fun q => have h := h.2 q; h⟩⟩⟩⟩⟩)
set_option maxRecDepth 100000 in
theorem vc_X8_look_76 {kd : Nat → Nat} {K : zK} {X : zX} (hX : ∀ (n pc : Nat) (ls : zLS) (st : List zV) (M : zM), zrun (tb_X8_look kd K) [(43, [7, 8]), (76, [])] n X pc ls st M → X pc ls st M) {c : Int32} {i : Int32} {n : Int32} {b : Int32} {e : Int32} {y : Int32} {w : Int32} {k : Int32} {M : zM} (hk0 : kd 9 = 8) (h : (((6 : Int32) ≤ k) → (0 ≤ n.toInt ∧ n.toInt < 64) ∧ ∀ v1 : Int32, (v1.toInt = pc6 n.toInt) → ((((2 : Int32) * w) ≤ v1) → (0 ≤ n.toInt ∧ n.toInt < 64) ∧ ∀ v2 : Int32, (v2.toInt = pc6 n.toInt) → ((e ≤ (v2 - w)) → ((e ≤ (v2 - w)) → X 43 [some (zR 9 0), some (zI (c)), some (zI (i)), some (zI (n)), some (zI (b)), some (zI (e)), some (zI (y + 1)), none, none] [] M) ∧ ((¬ e ≤ (v2 - w)) → X 43 [some (zR 9 0), some (zI (c)), some (zI (i)), some (zI (n)), some (zI (b)), some (zI (v2 - w)), some (zI (y + 1)), none, none] [] M)) ∧ ((¬ e ≤ (v2 - w)) → ((e ≤ (v2 - w)) → X 43 [some (zR 9 0), some (zI (c)), some (zI (i)), some (zI (n)), some (zI (y)), some (zI (e)), some (zI (y + 1)), none, none] [] M) ∧ ((¬ e ≤ (v2 - w)) → X 43 [some (zR 9 0), some (zI (c)), some (zI (i)), some (zI (n)), some (zI (y)), some (zI (v2 - w)), some (zI (y + 1)), none, none] [] M))) ∧ ((¬ ((2 : Int32) * w) ≤ v1) → ((e ≤ w) → ((e ≤ w) → X 43 [some (zR 9 0), some (zI (c)), some (zI (i)), some (zI (n)), some (zI (b)), some (zI (e)), some (zI (y + 1)), none, none] [] M) ∧ ((¬ e ≤ w) → X 43 [some (zR 9 0), some (zI (c)), some (zI (i)), some (zI (n)), some (zI (b)), some (zI (w)), some (zI (y + 1)), none, none] [] M)) ∧ ((¬ e ≤ w) → ((e ≤ w) → X 43 [some (zR 9 0), some (zI (c)), some (zI (i)), some (zI (n)), some (zI (y)), some (zI (e)), some (zI (y + 1)), none, none] [] M) ∧ ((¬ e ≤ w) → X 43 [some (zR 9 0), some (zI (c)), some (zI (i)), some (zI (n)), some (zI (y)), some (zI (w)), some (zI (y + 1)), none, none] [] M)))) ∧ ((¬ (6 : Int32) ≤ k) → ((¬ ((n >>> (k &&& 31)) &&& (1 : Int32)) = (1 : Int32)) → X 76 [some (zR 9 0), some (zI (c)), some (zI (i)), some (zI (n)), some (zI (b)), some (zI (e)), some (zI (y)), some (zI (w + (0 : Int32))), some (zI (k + 1))] [] M) ∧ ((((n >>> (k &&& 31)) &&& (1 : Int32)) = (1 : Int32)) → ∃ a3 : Sk, (RpF (M.1 9 5) a3) ∧ ∃ l3 : Ly, (sk_at a3 c.toInt i.toInt = some l3) ∧ (0 ≤ y.toInt ∧ y.toInt < 1000000) ∧ ∀ v3 : Int32, (v3 = zp (bnd k.toInt l3 (sk_at a3 c.toInt (i.toInt + 1)) y.toInt = true)) → ((v3 = 0) → X 76 [some (zR 9 0), some (zI (c)), some (zI (i)), some (zI (n)), some (zI (b)), some (zI (e)), some (zI (y)), some (zI (w + (0 : Int32))), some (zI (k + 1))] [] M) ∧ ((¬ v3 = 0) → X 76 [some (zR 9 0), some (zI (c)), some (zI (i)), some (zI (n)), some (zI (b)), some (zI (e)), some (zI (y)), some (zI (w + (1 : Int32))), some (zI (k + 1))] [] M)))) : X 76 [some (zR 9 0), some (zI (c)), some (zI (i)), some (zI (n)), some (zI (b)), some (zI (e)), some (zI (y)), some (zI (w)), some (zI (k))] [] M := hX 30 76 _ [] M (show (((6 : Int32) ≤ k) → (0 ≤ n.toInt ∧ n.toInt < 64) ∧ ∀ v1 : Int32, (v1.toInt = pc6 n.toInt) → ((((2 : Int32) * w) ≤ v1) → (0 ≤ n.toInt ∧ n.toInt < 64) ∧ ∀ v2 : Int32, (v2.toInt = pc6 n.toInt) → ((e ≤ (v2 - w)) → ((e ≤ (v2 - w)) → X 43 [some (zR 9 0), some (zI (c)), some (zI (i)), some (zI (n)), some (zI (b)), some (zI (e)), some (zI (y + 1)), none, none] [] M) ∧ ((¬ e ≤ (v2 - w)) → X 43 [some (zR 9 0), some (zI (c)), some (zI (i)), some (zI (n)), some (zI (b)), some (zI (v2 - w)), some (zI (y + 1)), none, none] [] M)) ∧ ((¬ e ≤ (v2 - w)) → ((e ≤ (v2 - w)) → X 43 [some (zR 9 0), some (zI (c)), some (zI (i)), some (zI (n)), some (zI (y)), some (zI (e)), some (zI (y + 1)), none, none] [] M) ∧ ((¬ e ≤ (v2 - w)) → X 43 [some (zR 9 0), some (zI (c)), some (zI (i)), some (zI (n)), some (zI (y)), some (zI (v2 - w)), some (zI (y + 1)), none, none] [] M))) ∧ ((¬ ((2 : Int32) * w) ≤ v1) → ((e ≤ w) → ((e ≤ w) → X 43 [some (zR 9 0), some (zI (c)), some (zI (i)), some (zI (n)), some (zI (b)), some (zI (e)), some (zI (y + 1)), none, none] [] M) ∧ ((¬ e ≤ w) → X 43 [some (zR 9 0), some (zI (c)), some (zI (i)), some (zI (n)), some (zI (b)), some (zI (w)), some (zI (y + 1)), none, none] [] M)) ∧ ((¬ e ≤ w) → ((e ≤ w) → X 43 [some (zR 9 0), some (zI (c)), some (zI (i)), some (zI (n)), some (zI (y)), some (zI (e)), some (zI (y + 1)), none, none] [] M) ∧ ((¬ e ≤ w) → X 43 [some (zR 9 0), some (zI (c)), some (zI (i)), some (zI (n)), some (zI (y)), some (zI (w)), some (zI (y + 1)), none, none] [] M)))) ∧ ((¬ (6 : Int32) ≤ k) → ((¬ ((n >>> (k &&& 31)) &&& (1 : Int32)) = (1 : Int32)) → X 76 [some (zR 9 0), some (zI (c)), some (zI (i)), some (zI (n)), some (zI (b)), some (zI (e)), some (zI (y)), some (zI (w + (0 : Int32))), some (zI (k + 1))] [] M) ∧ ((((n >>> (k &&& 31)) &&& (1 : Int32)) = (1 : Int32)) → (kd 9 = 8) ∧ ∃ a3 : Sk, (RpF (M.1 9 5) a3) ∧ ∃ l3 : Ly, (sk_at a3 c.toInt i.toInt = some l3) ∧ (0 ≤ y.toInt ∧ y.toInt < 1000000) ∧ ∀ v3 : Int32, (v3 = zp (bnd k.toInt l3 (sk_at a3 c.toInt (i.toInt + 1)) y.toInt = true)) → ((v3 = 0) → X 76 [some (zR 9 0), some (zI (c)), some (zI (i)), some (zI (n)), some (zI (b)), some (zI (e)), some (zI (y)), some (zI (w + (0 : Int32))), some (zI (k + 1))] [] M) ∧ ((¬ v3 = 0) → X 76 [some (zR 9 0), some (zI (c)), some (zI (i)), some (zI (n)), some (zI (b)), some (zI (e)), some (zI (y)), some (zI (w + (1 : Int32))), some (zI (k + 1))] [] M))) from ⟨fun q => have h := h.1 q; ⟨h.1, have h := h.2; fun v1 => have h := h v1; fun q => have h := h q; ⟨fun q => have h := h.1 q; ⟨h.1, have h := h.2; fun v2 => have h := h v2; fun q => have h := h q; ⟨fun q => have h := h.1 q; ⟨fun q => have h := h.1 q; h, fun q => have h := h.2 q; h⟩, fun q => have h := h.2 q; ⟨fun q => have h := h.1 q; h, fun q => have h := h.2 q; h⟩⟩⟩, fun q => have h := h.2 q; ⟨fun q => have h := h.1 q; ⟨fun q => have h := h.1 q; h, fun q => have h := h.2 q; h⟩, fun q => have h := h.2 q; ⟨fun q => have h := h.1 q; h, fun q => have h := h.2 q; h⟩⟩⟩⟩, fun q => have h := h.2 q; ⟨fun q => have h := h.1 q; h, fun q => have h := h.2 q; ⟨hk0, h.elim (fun a3 h => ⟨a3, ⟨h.1, have h := h.2; h.elim (fun l3 h => ⟨l3, ⟨h.1, have h := h.2; ⟨h.1, have h := h.2; fun v3 => have h := h v3; fun q => have h := h q; ⟨fun q => have h := h.1 q; h, fun q => have h := h.2 q; h⟩⟩⟩⟩)⟩⟩)⟩⟩⟩)
def sp_X8_sums : zSpec := fun kd as M K => match as with
  | [.inr (.inr (.inl (9, 0))), .inr (.inl p), .inl x, .inl n] => (kd 9 = 8) ∧ ∃ L : List Int, (L.length ≤ 30 ∧ (0 ≤ x.toInt ∧ x.toInt ≤ 200) ∧ n.toInt = (L.length : Int)) ∧ (∀ (i9 : Nat) (z9 : Int), L[i9]? = some z9 → (M.1 9 1 (x.toInt.toNat + i9)).toInt = z9) ∧ ∀ v : Int64, (v = L.foldl mx p) → K (some (.inr (.inl v))) M
  | _ => False
theorem rv_X8_sums : zrv sp_X8_sums 8 3 := by
  intro kd as M K h
  unfold sp_X8_sums at h
  split at h
  · exact ⟨_, _, rfl, h.1⟩
  · exact h.elim
theorem dd_X8_sums_0 : decode cX8_sums 0 = .ok (.lload_n 1, 1) := by decide +kernel
theorem dd_X8_sums_1 : decode cX8_sums 1 = .ok (.lstore 5, 2) := by decide +kernel
theorem dd_X8_sums_3 : decode cX8_sums 3 = .ok (.iconst 0, 1) := by decide +kernel
theorem dd_X8_sums_4 : decode cX8_sums 4 = .ok (.istore 7, 2) := by decide +kernel
theorem dd_X8_sums_6 : decode cX8_sums 6 = .ok (.iload 7, 2) := by decide +kernel
theorem dd_X8_sums_8 : decode cX8_sums 8 = .ok (.iload 4, 2) := by decide +kernel
theorem dd_X8_sums_10 : decode cX8_sums 10 = .ok (.if_icmp .ge 28, 3) := by decide +kernel
theorem dd_X8_sums_13 : decode cX8_sums 13 = .ok (.ldc2_w 306, 3) := by decide +kernel
theorem dd_X8_sums_16 : decode cX8_sums 16 = .ok (.lload 5, 2) := by decide +kernel
theorem dd_X8_sums_18 : decode cX8_sums 18 = .ok (.lmul, 1) := by decide +kernel
theorem dd_X8_sums_19 : decode cX8_sums 19 = .ok (.aload_n 0, 1) := by decide +kernel
theorem dd_X8_sums_20 : decode cX8_sums 20 = .ok (.getfield 7, 3) := by decide +kernel
theorem dd_X8_sums_23 : decode cX8_sums 23 = .ok (.iload_n 3, 1) := by decide +kernel
theorem dd_X8_sums_24 : decode cX8_sums 24 = .ok (.iload 7, 2) := by decide +kernel
theorem dd_X8_sums_26 : decode cX8_sums 26 = .ok (.iadd, 1) := by decide +kernel
theorem dd_X8_sums_27 : decode cX8_sums 27 = .ok (.iaload, 1) := by decide +kernel
theorem dd_X8_sums_28 : decode cX8_sums 28 = .ok (.i2l, 1) := by decide +kernel
theorem dd_X8_sums_29 : decode cX8_sums 29 = .ok (.ladd, 1) := by decide +kernel
theorem dd_X8_sums_30 : decode cX8_sums 30 = .ok (.lstore 5, 2) := by decide +kernel
theorem dd_X8_sums_32 : decode cX8_sums 32 = .ok (.iinc 7 1, 3) := by decide +kernel
theorem dd_X8_sums_35 : decode cX8_sums 35 = .ok (.goto (-29), 3) := by decide +kernel
theorem dd_X8_sums_38 : decode cX8_sums 38 = .ok (.lload 5, 2) := by decide +kernel
theorem dd_X8_sums_40 : decode cX8_sums 40 = .ok (.lreturn, 1) := by decide +kernel
def tb_X8_sums (kd : Nat → Nat) (K : zK) : zTab := [(0, zt_lload 1 1), (1, zt_lstore 5 3), (3, zt_const (zI 0) 4), (4, zt_istore 7 6), (6, zt_iload 7 8), (8, zt_iload 4 10), (10, zt_icmp (fun x y => y ≤ x) (fun x y => ¬ y ≤ x) 38 13), (13, zt_const (zL 31) 16), (16, zt_lload 5 18), (18, zt_binL (fun x y => x * y) 19), (19, zt_aload 0 20), (20, zt_getR kd 8 0 1 23), (23, zt_iload 3 24), (24, zt_iload 7 26), (26, zt_bin (fun x y => x + y) 27), (27, zt_ald kd 0 28), (28, zt_un (fun x => zL x.toInt64) 29), (29, zt_binL (fun x y => x + y) 30), (30, zt_lstore 5 32), (32, zt_iinc 7 1 35), (35, zt_goto 6), (38, zt_lload 5 40), (40, zt_lret K)]
set_option maxRecDepth 20000 in
theorem tk_X8_sums (d : Nat)  : zTrue RX8 cX8_sums 8 (some .long) (d + 1) (fun kd K => tb_X8_sums kd K) := by
  intro p l e R s m args below meth c D cy A ad bl Qm K C0 hr hlocks hQ
  obtain ⟨hx, hb, hml, hown, hts, hK, hD, hA0, hN, hE, ⟨hR1, hR2⟩, hc1, hc2⟩ := id C0
  unfold tb_X8_sums
  refine List.forall_mem_cons.mpr ⟨ok_lload_n hx hb rfl dd_X8_sums_0, ?_⟩
  refine List.forall_mem_cons.mpr ⟨ok_lstore hx hb dd_X8_sums_1, ?_⟩
  refine List.forall_mem_cons.mpr ⟨ok_iconst hx hb dd_X8_sums_3 (by decide), ?_⟩
  refine List.forall_mem_cons.mpr ⟨ok_istore hx hb dd_X8_sums_4, ?_⟩
  refine List.forall_mem_cons.mpr ⟨ok_iload hx hb dd_X8_sums_6, ?_⟩
  refine List.forall_mem_cons.mpr ⟨ok_iload hx hb dd_X8_sums_8, ?_⟩
  refine List.forall_mem_cons.mpr ⟨ok_icmp_ge hx hb dd_X8_sums_10 (by decide), ?_⟩
  refine List.forall_mem_cons.mpr ⟨ok_ldc2 hx hb hown (hts _ wd_1244) dd_X8_sums_13, ?_⟩
  refine List.forall_mem_cons.mpr ⟨ok_lload hx hb dd_X8_sums_16, ?_⟩
  refine List.forall_mem_cons.mpr ⟨ok_lmul hx hb dd_X8_sums_18, ?_⟩
  refine List.forall_mem_cons.mpr ⟨ok_aload_n hx hb rfl dd_X8_sums_19, ?_⟩
  refine List.forall_mem_cons.mpr ⟨ok_getR (j := 0) hx hb hts zi_X8 hown hK zc_X8 (by decide) rfl (fun t fl h => by cases h; rfl) (hts _ wd_840) dd_X8_sums_20, ?_⟩
  refine List.forall_mem_cons.mpr ⟨ok_iload_n hx hb rfl dd_X8_sums_23, ?_⟩
  refine List.forall_mem_cons.mpr ⟨ok_iload hx hb dd_X8_sums_24, ?_⟩
  refine List.forall_mem_cons.mpr ⟨ok_iadd hx hb dd_X8_sums_26, ?_⟩
  refine List.forall_mem_cons.mpr ⟨ok_ald (ty := 0) rfl hx hb hK (Or.inl ⟨rfl, rfl, dd_X8_sums_27⟩), ?_⟩
  refine List.forall_mem_cons.mpr ⟨ok_i2l hx hb dd_X8_sums_28, ?_⟩
  refine List.forall_mem_cons.mpr ⟨ok_ladd hx hb dd_X8_sums_29, ?_⟩
  refine List.forall_mem_cons.mpr ⟨ok_lstore hx hb dd_X8_sums_30, ?_⟩
  refine List.forall_mem_cons.mpr ⟨ok_iinc hx hb dd_X8_sums_32 (by decide), ?_⟩
  refine List.forall_mem_cons.mpr ⟨ok_goto hx hb dd_X8_sums_35 (by decide), ?_⟩
  refine List.forall_mem_cons.mpr ⟨ok_lload hx hb dd_X8_sums_38, ?_⟩
  refine List.forall_mem_cons.mpr ⟨ok_lret hx hb hr hlocks hQ dd_X8_sums_40, ?_⟩
  exact fun _ h => absurd h List.not_mem_nil
set_option maxRecDepth 100000 in
theorem vc_X8_sums_0 {kd : Nat → Nat} {K : zK} {X : zX} (hX : ∀ (n pc : Nat) (ls : zLS) (st : List zV) (M : zM), zrun (tb_X8_sums kd K) [(6, [])] n X pc ls st M → X pc ls st M) {p : Int64} {x : Int32} {n : Int32} {M : zM}  (h : X 6 [some (zR 9 0), some (zL (p)), none, some (zI (x)), some (zI (n)), some (zL (p)), none, some (zI ((0 : Int32)))] [] M) : X 0 [some (zR 9 0), some (zL (p)), none, some (zI (x)), some (zI (n)), none, none, none] [] M := hX 6 0 _ [] M (show X 6 [some (zR 9 0), some (zL (p)), none, some (zI (x)), some (zI (n)), some (zL (p)), none, some (zI ((0 : Int32)))] [] M from h)
set_option maxRecDepth 100000 in
theorem vc_X8_sums_6 {kd : Nat → Nat} {K : zK} {X : zX} (hX : ∀ (n pc : Nat) (ls : zLS) (st : List zV) (M : zM), zrun (tb_X8_sums kd K) [(6, [])] n X pc ls st M → X pc ls st M) {p : Int64} {x : Int32} {n : Int32} {q : Int64} {k : Int32} {M : zM} (hk0 : kd 9 = 8) (h : ((n ≤ k) → K (some (zL (q))) M) ∧ ((¬ n ≤ k) → (zin (kd 9) 1 0 (x + k)) ∧ X 6 [some (zR 9 0), some (zL (p)), none, some (zI (x)), some (zI (n)), some (zL (((31 : Int64) * q) + ((M.1 9 1 (x + k).toNatClampNeg).toInt64))), none, some (zI (k + 1))] [] M)) : X 6 [some (zR 9 0), some (zL (p)), none, some (zI (x)), some (zI (n)), some (zL (q)), none, some (zI (k))] [] M := hX 19 6 _ [] M (show ((n ≤ k) → K (some (zL (q))) M) ∧ ((¬ n ≤ k) → (kd 9 = 8) ∧ (zin (kd 9) 1 0 (x + k)) ∧ X 6 [some (zR 9 0), some (zL (p)), none, some (zI (x)), some (zI (n)), some (zL (((31 : Int64) * q) + ((M.1 9 1 (x + k).toNatClampNeg).toInt64))), none, some (zI (k + 1))] [] M) from ⟨fun q => have h := h.1 q; h, fun q => have h := h.2 q; ⟨hk0, ⟨h.1, have h := h.2; h⟩⟩⟩)
def sp_X8_digest : zSpec := fun kd as M K => match as with
  | [.inr (.inr (.inl (9, 0)))] => (kd 9 = 8) ∧ ∃ s : St, (RpM M s) ∧ ∀ v : Int64, (v = ev_digest s) → ∀ M' : zM, (RpM M' s) → (fr0 M M') → K (some (.inr (.inl v))) M'
  | _ => False
theorem rv_X8_digest : zrv sp_X8_digest 8 0 := by
  intro kd as M K h
  unfold sp_X8_digest at h
  split at h
  · exact ⟨_, _, rfl, h.1⟩
  · exact h.elim
theorem dd_X8_digest_0 : decode cX8_digest 0 = .ok (.ldc2_w 308, 3) := by decide +kernel
theorem dd_X8_digest_3 : decode cX8_digest 3 = .ok (.lstore_n 1, 1) := by decide +kernel
theorem dd_X8_digest_4 : decode cX8_digest 4 = .ok (.iconst 0, 1) := by decide +kernel
theorem dd_X8_digest_5 : decode cX8_digest 5 = .ok (.istore_n 3, 1) := by decide +kernel
theorem dd_X8_digest_6 : decode cX8_digest 6 = .ok (.iload_n 3, 1) := by decide +kernel
theorem dd_X8_digest_7 : decode cX8_digest 7 = .ok (.bipush 7, 2) := by decide +kernel
theorem dd_X8_digest_9 : decode cX8_digest 9 = .ok (.if_icmp .ge 22, 3) := by decide +kernel
theorem dd_X8_digest_12 : decode cX8_digest 12 = .ok (.ldc2_w 306, 3) := by decide +kernel
theorem dd_X8_digest_15 : decode cX8_digest 15 = .ok (.lload_n 1, 1) := by decide +kernel
theorem dd_X8_digest_16 : decode cX8_digest 16 = .ok (.lmul, 1) := by decide +kernel
theorem dd_X8_digest_17 : decode cX8_digest 17 = .ok (.aload_n 0, 1) := by decide +kernel
theorem dd_X8_digest_18 : decode cX8_digest 18 = .ok (.iload_n 3, 1) := by decide +kernel
theorem dd_X8_digest_19 : decode cX8_digest 19 = .ok (.invokevirtual 303, 3) := by decide +kernel
theorem dd_X8_digest_22 : decode cX8_digest 22 = .ok (.i2l, 1) := by decide +kernel
theorem dd_X8_digest_23 : decode cX8_digest 23 = .ok (.ladd, 1) := by decide +kernel
theorem dd_X8_digest_24 : decode cX8_digest 24 = .ok (.lstore_n 1, 1) := by decide +kernel
theorem dd_X8_digest_25 : decode cX8_digest 25 = .ok (.iinc 3 1, 3) := by decide +kernel
theorem dd_X8_digest_28 : decode cX8_digest 28 = .ok (.goto (-22), 3) := by decide +kernel
theorem dd_X8_digest_31 : decode cX8_digest 31 = .ok (.iconst 0, 1) := by decide +kernel
theorem dd_X8_digest_32 : decode cX8_digest 32 = .ok (.istore_n 3, 1) := by decide +kernel
theorem dd_X8_digest_33 : decode cX8_digest 33 = .ok (.iload_n 3, 1) := by decide +kernel
theorem dd_X8_digest_34 : decode cX8_digest 34 = .ok (.bipush 6, 2) := by decide +kernel
theorem dd_X8_digest_36 : decode cX8_digest 36 = .ok (.if_icmp .ge 45, 3) := by decide +kernel
theorem dd_X8_digest_39 : decode cX8_digest 39 = .ok (.aload_n 0, 1) := by decide +kernel
theorem dd_X8_digest_40 : decode cX8_digest 40 = .ok (.ldc2_w 306, 3) := by decide +kernel
theorem dd_X8_digest_43 : decode cX8_digest 43 = .ok (.lload_n 1, 1) := by decide +kernel
theorem dd_X8_digest_44 : decode cX8_digest 44 = .ok (.lmul, 1) := by decide +kernel
theorem dd_X8_digest_45 : decode cX8_digest 45 = .ok (.aload_n 0, 1) := by decide +kernel
theorem dd_X8_digest_46 : decode cX8_digest 46 = .ok (.getfield 7, 3) := by decide +kernel
theorem dd_X8_digest_49 : decode cX8_digest 49 = .ok (.iconst 0, 1) := by decide +kernel
theorem dd_X8_digest_50 : decode cX8_digest 50 = .ok (.iload_n 3, 1) := by decide +kernel
theorem dd_X8_digest_51 : decode cX8_digest 51 = .ok (.iadd, 1) := by decide +kernel
theorem dd_X8_digest_52 : decode cX8_digest 52 = .ok (.iaload, 1) := by decide +kernel
theorem dd_X8_digest_53 : decode cX8_digest 53 = .ok (.i2l, 1) := by decide +kernel
theorem dd_X8_digest_54 : decode cX8_digest 54 = .ok (.ladd, 1) := by decide +kernel
theorem dd_X8_digest_55 : decode cX8_digest 55 = .ok (.iload_n 3, 1) := by decide +kernel
theorem dd_X8_digest_56 : decode cX8_digest 56 = .ok (.iconst 0, 1) := by decide +kernel
theorem dd_X8_digest_57 : decode cX8_digest 57 = .ok (.iconst 0, 1) := by decide +kernel
theorem dd_X8_digest_58 : decode cX8_digest 58 = .ok (.invokestatic 62, 3) := by decide +kernel
theorem dd_X8_digest_61 : decode cX8_digest 61 = .ok (.iconst 5, 1) := by decide +kernel
theorem dd_X8_digest_62 : decode cX8_digest 62 = .ok (.aload_n 0, 1) := by decide +kernel
theorem dd_X8_digest_63 : decode cX8_digest 63 = .ok (.getfield 7, 3) := by decide +kernel
theorem dd_X8_digest_66 : decode cX8_digest 66 = .ok (.iconst 0, 1) := by decide +kernel
theorem dd_X8_digest_67 : decode cX8_digest 67 = .ok (.iload_n 3, 1) := by decide +kernel
theorem dd_X8_digest_68 : decode cX8_digest 68 = .ok (.iadd, 1) := by decide +kernel
theorem dd_X8_digest_69 : decode cX8_digest 69 = .ok (.iaload, 1) := by decide +kernel
theorem dd_X8_digest_70 : decode cX8_digest 70 = .ok (.imul, 1) := by decide +kernel
theorem dd_X8_digest_71 : decode cX8_digest 71 = .ok (.invokevirtual 310, 3) := by decide +kernel
theorem dd_X8_digest_74 : decode cX8_digest 74 = .ok (.lstore_n 1, 1) := by decide +kernel
theorem dd_X8_digest_75 : decode cX8_digest 75 = .ok (.iinc 3 1, 3) := by decide +kernel
theorem dd_X8_digest_78 : decode cX8_digest 78 = .ok (.goto (-45), 3) := by decide +kernel
theorem dd_X8_digest_81 : decode cX8_digest 81 = .ok (.aload_n 0, 1) := by decide +kernel
theorem dd_X8_digest_82 : decode cX8_digest 82 = .ok (.lload_n 1, 1) := by decide +kernel
theorem dd_X8_digest_83 : decode cX8_digest 83 = .ok (.sipush 129, 3) := by decide +kernel
theorem dd_X8_digest_86 : decode cX8_digest 86 = .ok (.iconst 4, 1) := by decide +kernel
theorem dd_X8_digest_87 : decode cX8_digest 87 = .ok (.aload_n 0, 1) := by decide +kernel
theorem dd_X8_digest_88 : decode cX8_digest 88 = .ok (.getfield 7, 3) := by decide +kernel
theorem dd_X8_digest_91 : decode cX8_digest 91 = .ok (.bipush 127, 2) := by decide +kernel
theorem dd_X8_digest_93 : decode cX8_digest 93 = .ok (.iaload, 1) := by decide +kernel
theorem dd_X8_digest_94 : decode cX8_digest 94 = .ok (.imul, 1) := by decide +kernel
theorem dd_X8_digest_95 : decode cX8_digest 95 = .ok (.invokevirtual 310, 3) := by decide +kernel
theorem dd_X8_digest_98 : decode cX8_digest 98 = .ok (.lstore_n 1, 1) := by decide +kernel
theorem dd_X8_digest_99 : decode cX8_digest 99 = .ok (.ldc2_w 306, 3) := by decide +kernel
theorem dd_X8_digest_102 : decode cX8_digest 102 = .ok (.ldc2_w 306, 3) := by decide +kernel
theorem dd_X8_digest_105 : decode cX8_digest 105 = .ok (.lload_n 1, 1) := by decide +kernel
theorem dd_X8_digest_106 : decode cX8_digest 106 = .ok (.lmul, 1) := by decide +kernel
theorem dd_X8_digest_107 : decode cX8_digest 107 = .ok (.aload_n 0, 1) := by decide +kernel
theorem dd_X8_digest_108 : decode cX8_digest 108 = .ok (.getfield 209, 3) := by decide +kernel
theorem dd_X8_digest_111 : decode cX8_digest 111 = .ok (.ladd, 1) := by decide +kernel
theorem dd_X8_digest_112 : decode cX8_digest 112 = .ok (.lmul, 1) := by decide +kernel
theorem dd_X8_digest_113 : decode cX8_digest 113 = .ok (.aload_n 0, 1) := by decide +kernel
theorem dd_X8_digest_114 : decode cX8_digest 114 = .ok (.getfield 23, 3) := by decide +kernel
theorem dd_X8_digest_117 : decode cX8_digest 117 = .ok (.ladd, 1) := by decide +kernel
theorem dd_X8_digest_118 : decode cX8_digest 118 = .ok (.lreturn, 1) := by decide +kernel
def tb_X8_digest (kd : Nat → Nat) (K : zK) : zTab := [(0, zt_const (zL 1163) 3), (3, zt_lstore 1 4), (4, zt_const (zI 0) 5), (5, zt_istore 3 6), (6, zt_iload 3 7), (7, zt_const (zI 7) 9), (9, zt_icmp (fun x y => y ≤ x) (fun x y => ¬ y ≤ x) 31 12), (12, zt_const (zL 31) 15), (15, zt_lload 1 16), (16, zt_binL (fun x y => x * y) 17), (17, zt_aload 0 18), (18, zt_iload 3 19), (19, zt_call kd sp_X8_counted 2 22), (22, zt_un (fun x => zL x.toInt64) 23), (23, zt_binL (fun x y => x + y) 24), (24, zt_lstore 1 25), (25, zt_iinc 3 1 28), (28, zt_goto 6), (31, zt_const (zI 0) 32), (32, zt_istore 3 33), (33, zt_iload 3 34), (34, zt_const (zI 6) 36), (36, zt_icmp (fun x y => y ≤ x) (fun x y => ¬ y ≤ x) 81 39), (39, zt_aload 0 40), (40, zt_const (zL 31) 43), (43, zt_lload 1 44), (44, zt_binL (fun x y => x * y) 45), (45, zt_aload 0 46), (46, zt_getR kd 8 0 1 49), (49, zt_const (zI 0) 50), (50, zt_iload 3 51), (51, zt_bin (fun x y => x + y) 52), (52, zt_ald kd 0 53), (53, zt_un (fun x => zL x.toInt64) 54), (54, zt_binL (fun x y => x + y) 55), (55, zt_iload 3 56), (56, zt_const (zI 0) 57), (57, zt_const (zI 0) 58), (58, zt_call kd sp_X8_at 3 61), (61, zt_const (zI 5) 62), (62, zt_aload 0 63), (63, zt_getR kd 8 0 1 66), (66, zt_const (zI 0) 67), (67, zt_iload 3 68), (68, zt_bin (fun x y => x + y) 69), (69, zt_ald kd 0 70), (70, zt_bin (fun x y => x * y) 71), (71, zt_call kd sp_X8_sums 4 74), (74, zt_lstore 1 75), (75, zt_iinc 3 1 78), (78, zt_goto 33), (81, zt_aload 0 82), (82, zt_lload 1 83), (83, zt_const (zI 129) 86), (86, zt_const (zI 4) 87), (87, zt_aload 0 88), (88, zt_getR kd 8 0 1 91), (91, zt_const (zI 127) 93), (93, zt_ald kd 0 94), (94, zt_bin (fun x y => x * y) 95), (95, zt_call kd sp_X8_sums 4 98), (98, zt_lstore 1 99), (99, zt_const (zL 31) 102), (102, zt_const (zL 31) 105), (105, zt_lload 1 106), (106, zt_binL (fun x y => x * y) 107), (107, zt_aload 0 108), (108, zt_getL kd 8 4 111), (111, zt_binL (fun x y => x + y) 112), (112, zt_binL (fun x y => x * y) 113), (113, zt_aload 0 114), (114, zt_getL kd 8 5 117), (117, zt_binL (fun x y => x + y) 118), (118, zt_lret K)]
set_option maxRecDepth 20000 in
theorem tk_X8_digest (d : Nat) (h_X8_counted : zMS 9 yX8_counted cX8_counted 2 (some .int) sp_X8_counted) (h_X8_at : zMS 1 yX8_at cX8_at 3 (some .int) sp_X8_at) (h_X8_sums : zMS 1 yX8_sums cX8_sums 8 (some .long) sp_X8_sums) : zTrue RX8 cX8_digest 4 (some .long) (d + 10) (fun kd K => tb_X8_digest kd K) := by
  intro p l e R s m args below meth c D cy A ad bl Qm K C0 hr hlocks hQ
  obtain ⟨hx, hb, hml, hown, hts, hK, hD, hA0, hN, hE, ⟨hR1, hR2⟩, hc1, hc2⟩ := id C0
  unfold tb_X8_digest
  refine List.forall_mem_cons.mpr ⟨ok_ldc2 hx hb hown (hts _ wd_1243) dd_X8_digest_0, ?_⟩
  refine List.forall_mem_cons.mpr ⟨ok_lstore_n hx hb rfl dd_X8_digest_3, ?_⟩
  refine List.forall_mem_cons.mpr ⟨ok_iconst hx hb dd_X8_digest_4 (by decide), ?_⟩
  refine List.forall_mem_cons.mpr ⟨ok_istore_n hx hb rfl dd_X8_digest_5, ?_⟩
  refine List.forall_mem_cons.mpr ⟨ok_iload_n hx hb rfl dd_X8_digest_6, ?_⟩
  refine List.forall_mem_cons.mpr ⟨ok_bipush hx hb dd_X8_digest_7 (by decide), ?_⟩
  refine List.forall_mem_cons.mpr ⟨ok_icmp_ge hx hb dd_X8_digest_9 (by decide), ?_⟩
  refine List.forall_mem_cons.mpr ⟨ok_ldc2 hx hb hown (hts _ wd_1244) dd_X8_digest_12, ?_⟩
  refine List.forall_mem_cons.mpr ⟨ok_lload_n hx hb rfl dd_X8_digest_15, ?_⟩
  refine List.forall_mem_cons.mpr ⟨ok_lmul hx hb dd_X8_digest_16, ?_⟩
  refine List.forall_mem_cons.mpr ⟨ok_aload_n hx hb rfl dd_X8_digest_17, ?_⟩
  refine List.forall_mem_cons.mpr ⟨ok_iload_n hx hb rfl dd_X8_digest_18, ?_⟩
  refine List.forall_mem_cons.mpr ⟨ok_callV (n := 1) zc_X8 rv_X8_counted C0 (h_X8_counted (d + 9) (by omega)) (by decide) wd_1234 wd_1231 wd_1233 wd_96 wd_107 ⟨rfl, by decide +kernel, by decide +kernel, by decide +kernel⟩ dd_X8_digest_19, ?_⟩
  refine List.forall_mem_cons.mpr ⟨ok_i2l hx hb dd_X8_digest_22, ?_⟩
  refine List.forall_mem_cons.mpr ⟨ok_ladd hx hb dd_X8_digest_23, ?_⟩
  refine List.forall_mem_cons.mpr ⟨ok_lstore_n hx hb rfl dd_X8_digest_24, ?_⟩
  refine List.forall_mem_cons.mpr ⟨ok_iinc hx hb dd_X8_digest_25 (by decide), ?_⟩
  refine List.forall_mem_cons.mpr ⟨ok_goto hx hb dd_X8_digest_28 (by decide), ?_⟩
  refine List.forall_mem_cons.mpr ⟨ok_iconst hx hb dd_X8_digest_31 (by decide), ?_⟩
  refine List.forall_mem_cons.mpr ⟨ok_istore_n hx hb rfl dd_X8_digest_32, ?_⟩
  refine List.forall_mem_cons.mpr ⟨ok_iload_n hx hb rfl dd_X8_digest_33, ?_⟩
  refine List.forall_mem_cons.mpr ⟨ok_bipush hx hb dd_X8_digest_34 (by decide), ?_⟩
  refine List.forall_mem_cons.mpr ⟨ok_icmp_ge hx hb dd_X8_digest_36 (by decide), ?_⟩
  refine List.forall_mem_cons.mpr ⟨ok_aload_n hx hb rfl dd_X8_digest_39, ?_⟩
  refine List.forall_mem_cons.mpr ⟨ok_ldc2 hx hb hown (hts _ wd_1244) dd_X8_digest_40, ?_⟩
  refine List.forall_mem_cons.mpr ⟨ok_lload_n hx hb rfl dd_X8_digest_43, ?_⟩
  refine List.forall_mem_cons.mpr ⟨ok_lmul hx hb dd_X8_digest_44, ?_⟩
  refine List.forall_mem_cons.mpr ⟨ok_aload_n hx hb rfl dd_X8_digest_45, ?_⟩
  refine List.forall_mem_cons.mpr ⟨ok_getR (j := 0) hx hb hts zi_X8 hown hK zc_X8 (by decide) rfl (fun t fl h => by cases h; rfl) (hts _ wd_840) dd_X8_digest_46, ?_⟩
  refine List.forall_mem_cons.mpr ⟨ok_iconst hx hb dd_X8_digest_49 (by decide), ?_⟩
  refine List.forall_mem_cons.mpr ⟨ok_iload_n hx hb rfl dd_X8_digest_50, ?_⟩
  refine List.forall_mem_cons.mpr ⟨ok_iadd hx hb dd_X8_digest_51, ?_⟩
  refine List.forall_mem_cons.mpr ⟨ok_ald (ty := 0) rfl hx hb hK (Or.inl ⟨rfl, rfl, dd_X8_digest_52⟩), ?_⟩
  refine List.forall_mem_cons.mpr ⟨ok_i2l hx hb dd_X8_digest_53, ?_⟩
  refine List.forall_mem_cons.mpr ⟨ok_ladd hx hb dd_X8_digest_54, ?_⟩
  refine List.forall_mem_cons.mpr ⟨ok_iload_n hx hb rfl dd_X8_digest_55, ?_⟩
  refine List.forall_mem_cons.mpr ⟨ok_iconst hx hb dd_X8_digest_56 (by decide), ?_⟩
  refine List.forall_mem_cons.mpr ⟨ok_iconst hx hb dd_X8_digest_57 (by decide), ?_⟩
  refine List.forall_mem_cons.mpr ⟨ok_callS (n := 3) C0 (h_X8_at (d + 9) (by omega)) (by decide) wd_942 wd_940 wd_941 wd_107 ⟨by decide +kernel, by decide +kernel, by decide +kernel⟩ dd_X8_digest_58, ?_⟩
  refine List.forall_mem_cons.mpr ⟨ok_iconst hx hb dd_X8_digest_61 (by decide), ?_⟩
  refine List.forall_mem_cons.mpr ⟨ok_aload_n hx hb rfl dd_X8_digest_62, ?_⟩
  refine List.forall_mem_cons.mpr ⟨ok_getR (j := 0) hx hb hts zi_X8 hown hK zc_X8 (by decide) rfl (fun t fl h => by cases h; rfl) (hts _ wd_840) dd_X8_digest_63, ?_⟩
  refine List.forall_mem_cons.mpr ⟨ok_iconst hx hb dd_X8_digest_66 (by decide), ?_⟩
  refine List.forall_mem_cons.mpr ⟨ok_iload_n hx hb rfl dd_X8_digest_67, ?_⟩
  refine List.forall_mem_cons.mpr ⟨ok_iadd hx hb dd_X8_digest_68, ?_⟩
  refine List.forall_mem_cons.mpr ⟨ok_ald (ty := 0) rfl hx hb hK (Or.inl ⟨rfl, rfl, dd_X8_digest_69⟩), ?_⟩
  refine List.forall_mem_cons.mpr ⟨ok_imul hx hb dd_X8_digest_70, ?_⟩
  refine List.forall_mem_cons.mpr ⟨ok_callV (n := 3) zc_X8 rv_X8_sums C0 (h_X8_sums (d + 9) (by omega)) (by decide) wd_1248 wd_1245 wd_1247 wd_98 wd_107 ⟨rfl, by decide +kernel, by decide +kernel, by decide +kernel⟩ dd_X8_digest_71, ?_⟩
  refine List.forall_mem_cons.mpr ⟨ok_lstore_n hx hb rfl dd_X8_digest_74, ?_⟩
  refine List.forall_mem_cons.mpr ⟨ok_iinc hx hb dd_X8_digest_75 (by decide), ?_⟩
  refine List.forall_mem_cons.mpr ⟨ok_goto hx hb dd_X8_digest_78 (by decide), ?_⟩
  refine List.forall_mem_cons.mpr ⟨ok_aload_n hx hb rfl dd_X8_digest_81, ?_⟩
  refine List.forall_mem_cons.mpr ⟨ok_lload_n hx hb rfl dd_X8_digest_82, ?_⟩
  refine List.forall_mem_cons.mpr ⟨ok_sipush hx hb dd_X8_digest_83 (by decide), ?_⟩
  refine List.forall_mem_cons.mpr ⟨ok_iconst hx hb dd_X8_digest_86 (by decide), ?_⟩
  refine List.forall_mem_cons.mpr ⟨ok_aload_n hx hb rfl dd_X8_digest_87, ?_⟩
  refine List.forall_mem_cons.mpr ⟨ok_getR (j := 0) hx hb hts zi_X8 hown hK zc_X8 (by decide) rfl (fun t fl h => by cases h; rfl) (hts _ wd_840) dd_X8_digest_88, ?_⟩
  refine List.forall_mem_cons.mpr ⟨ok_bipush hx hb dd_X8_digest_91 (by decide), ?_⟩
  refine List.forall_mem_cons.mpr ⟨ok_ald (ty := 0) rfl hx hb hK (Or.inl ⟨rfl, rfl, dd_X8_digest_93⟩), ?_⟩
  refine List.forall_mem_cons.mpr ⟨ok_imul hx hb dd_X8_digest_94, ?_⟩
  refine List.forall_mem_cons.mpr ⟨ok_callV (n := 3) zc_X8 rv_X8_sums C0 (h_X8_sums (d + 9) (by omega)) (by decide) wd_1248 wd_1245 wd_1247 wd_98 wd_107 ⟨rfl, by decide +kernel, by decide +kernel, by decide +kernel⟩ dd_X8_digest_95, ?_⟩
  refine List.forall_mem_cons.mpr ⟨ok_lstore_n hx hb rfl dd_X8_digest_98, ?_⟩
  refine List.forall_mem_cons.mpr ⟨ok_ldc2 hx hb hown (hts _ wd_1244) dd_X8_digest_99, ?_⟩
  refine List.forall_mem_cons.mpr ⟨ok_ldc2 hx hb hown (hts _ wd_1244) dd_X8_digest_102, ?_⟩
  refine List.forall_mem_cons.mpr ⟨ok_lload_n hx hb rfl dd_X8_digest_105, ?_⟩
  refine List.forall_mem_cons.mpr ⟨ok_lmul hx hb dd_X8_digest_106, ?_⟩
  refine List.forall_mem_cons.mpr ⟨ok_aload_n hx hb rfl dd_X8_digest_107, ?_⟩
  refine List.forall_mem_cons.mpr ⟨ok_getL (j := 4) hx hb hts zi_X8 hown hK zc_X8 (by decide) rfl (fun t fl h => by cases h; rfl) (hts _ wd_844) dd_X8_digest_108, ?_⟩
  refine List.forall_mem_cons.mpr ⟨ok_ladd hx hb dd_X8_digest_111, ?_⟩
  refine List.forall_mem_cons.mpr ⟨ok_lmul hx hb dd_X8_digest_112, ?_⟩
  refine List.forall_mem_cons.mpr ⟨ok_aload_n hx hb rfl dd_X8_digest_113, ?_⟩
  refine List.forall_mem_cons.mpr ⟨ok_getL (j := 5) hx hb hts zi_X8 hown hK zc_X8 (by decide) rfl (fun t fl h => by cases h; rfl) (hts _ wd_845) dd_X8_digest_114, ?_⟩
  refine List.forall_mem_cons.mpr ⟨ok_ladd hx hb dd_X8_digest_117, ?_⟩
  refine List.forall_mem_cons.mpr ⟨ok_lret hx hb hr hlocks hQ dd_X8_digest_118, ?_⟩
  exact fun _ h => absurd h List.not_mem_nil
set_option maxRecDepth 100000 in
theorem vc_X8_digest_0 {kd : Nat → Nat} {K : zK} {X : zX} (hX : ∀ (n pc : Nat) (ls : zLS) (st : List zV) (M : zM), zrun (tb_X8_digest kd K) [(6, []), (33, [])] n X pc ls st M → X pc ls st M)  {M : zM}  (h : X 6 [some (zR 9 0), some (zL ((1163 : Int64))), none, some (zI ((0 : Int32)))] [] M) : X 0 [some (zR 9 0), none, none, none] [] M := hX 6 0 _ [] M (show X 6 [some (zR 9 0), some (zL ((1163 : Int64))), none, some (zI ((0 : Int32)))] [] M from h)
set_option maxRecDepth 100000 in
theorem vc_X8_digest_6 {kd : Nat → Nat} {K : zK} {X : zX} (hX : ∀ (n pc : Nat) (ls : zLS) (st : List zV) (M : zM), zrun (tb_X8_digest kd K) [(6, []), (33, [])] n X pc ls st M → X pc ls st M) {p : Int64} {k : Int32} {M : zM} (hk0 : kd 9 = 8) (h : (((7 : Int32) ≤ k) → X 33 [some (zR 9 0), some (zL (p)), none, some (zI ((0 : Int32)))] [] M) ∧ ((¬ (7 : Int32) ≤ k) → ∃ s1 : St, (RpM M s1) ∧ (0 ≤ k.toInt ∧ k.toInt ≤ 6) ∧ ∀ v1 : Int32, (v1.toInt = (ev_count s1 k.toInt).1) → ∀ M1 : zM, (RpM M1 s1) → (fr0 M M1) → X 6 [some (zR 9 0), some (zL (((31 : Int64) * p) + v1.toInt64)), none, some (zI (k + 1))] [] M1)) : X 6 [some (zR 9 0), some (zL (p)), none, some (zI (k))] [] M := hX 16 6 _ [] M (show (((7 : Int32) ≤ k) → X 33 [some (zR 9 0), some (zL (p)), none, some (zI ((0 : Int32)))] [] M) ∧ ((¬ (7 : Int32) ≤ k) → (kd 9 = 8) ∧ ∃ s1 : St, (RpM M s1) ∧ (0 ≤ k.toInt ∧ k.toInt ≤ 6) ∧ ∀ v1 : Int32, (v1.toInt = (ev_count s1 k.toInt).1) → ∀ M1 : zM, (RpM M1 s1) → (fr0 M M1) → X 6 [some (zR 9 0), some (zL (((31 : Int64) * p) + v1.toInt64)), none, some (zI (k + 1))] [] M1) from ⟨fun q => have h := h.1 q; h, fun q => have h := h.2 q; ⟨hk0, h.elim (fun s1 h => ⟨s1, ⟨h.1, have h := h.2; ⟨h.1, have h := h.2; fun v1 => have h := h v1; fun q => have h := h q; fun M1 => have h := h M1; fun q => have h := h q; fun q => have h := h q; h⟩⟩⟩)⟩⟩)
set_option maxRecDepth 100000 in
theorem vc_X8_digest_33 {kd : Nat → Nat} {K : zK} {X : zX} (hX : ∀ (n pc : Nat) (ls : zLS) (st : List zV) (M : zM), zrun (tb_X8_digest kd K) [(6, []), (33, [])] n X pc ls st M → X pc ls st M) {p : Int64} {k : Int32} {M : zM} (hk0 : kd 9 = 8) (h : (((6 : Int32) ≤ k) → (zin (kd 9) 1 0 (127 : Int32)) ∧ ∃ L1 : List Int, (L1.length ≤ 30 ∧ (0 ≤ (129 : Int32).toInt ∧ (129 : Int32).toInt ≤ 200) ∧ ((4 : Int32) * (M.1 9 1 ((127 : Int32)).toNatClampNeg)).toInt = (L1.length : Int)) ∧ (∀ (i9 : Nat) (z9 : Int), L1[i9]? = some z9 → (M.1 9 1 ((129 : Int32).toInt.toNat + i9)).toInt = z9) ∧ ∀ v1 : Int64, (v1 = L1.foldl mx p) → K (some (zL (((31 : Int64) * (((31 : Int64) * v1) + (M.2 9 4))) + (M.2 9 5)))) M) ∧ ((¬ (6 : Int32) ≤ k) → (zin (kd 9) 1 0 ((0 : Int32) + k)) ∧ ((0 ≤ k.toInt ∧ k.toInt < 1000) ∧ (0 ≤ (0 : Int32).toInt ∧ (0 : Int32).toInt < 1000) ∧ 0 ≤ (0 : Int32).toInt ∧ (0 : Int32).toInt < 1000) ∧ ∀ v2 : Int32, (v2.toInt = 6 + 20 * k.toInt + 5 * (0 : Int32).toInt + (0 : Int32).toInt) → (zin (kd 9) 1 0 ((0 : Int32) + k)) ∧ ∃ L3 : List Int, (L3.length ≤ 30 ∧ (0 ≤ v2.toInt ∧ v2.toInt ≤ 200) ∧ ((5 : Int32) * (M.1 9 1 ((0 : Int32) + k).toNatClampNeg)).toInt = (L3.length : Int)) ∧ (∀ (i9 : Nat) (z9 : Int), L3[i9]? = some z9 → (M.1 9 1 (v2.toInt.toNat + i9)).toInt = z9) ∧ ∀ v3 : Int64, (v3 = L3.foldl mx (((31 : Int64) * p) + ((M.1 9 1 ((0 : Int32) + k).toNatClampNeg).toInt64))) → X 33 [some (zR 9 0), some (zL (v3)), none, some (zI (k + 1))] [] M)) : X 33 [some (zR 9 0), some (zL (p)), none, some (zI (k))] [] M := hX 33 33 _ [] M (show (((6 : Int32) ≤ k) → (kd 9 = 8) ∧ (zin (kd 9) 1 0 (127 : Int32)) ∧ (kd 9 = 8) ∧ ∃ L1 : List Int, (L1.length ≤ 30 ∧ (0 ≤ (129 : Int32).toInt ∧ (129 : Int32).toInt ≤ 200) ∧ ((4 : Int32) * (M.1 9 1 ((127 : Int32)).toNatClampNeg)).toInt = (L1.length : Int)) ∧ (∀ (i9 : Nat) (z9 : Int), L1[i9]? = some z9 → (M.1 9 1 ((129 : Int32).toInt.toNat + i9)).toInt = z9) ∧ ∀ v1 : Int64, (v1 = L1.foldl mx p) → (kd 9 = 8) ∧ (kd 9 = 8) ∧ K (some (zL (((31 : Int64) * (((31 : Int64) * v1) + (M.2 9 4))) + (M.2 9 5)))) M) ∧ ((¬ (6 : Int32) ≤ k) → (kd 9 = 8) ∧ (zin (kd 9) 1 0 ((0 : Int32) + k)) ∧ ((0 ≤ k.toInt ∧ k.toInt < 1000) ∧ (0 ≤ (0 : Int32).toInt ∧ (0 : Int32).toInt < 1000) ∧ 0 ≤ (0 : Int32).toInt ∧ (0 : Int32).toInt < 1000) ∧ ∀ v2 : Int32, (v2.toInt = 6 + 20 * k.toInt + 5 * (0 : Int32).toInt + (0 : Int32).toInt) → (kd 9 = 8) ∧ (zin (kd 9) 1 0 ((0 : Int32) + k)) ∧ (kd 9 = 8) ∧ ∃ L3 : List Int, (L3.length ≤ 30 ∧ (0 ≤ v2.toInt ∧ v2.toInt ≤ 200) ∧ ((5 : Int32) * (M.1 9 1 ((0 : Int32) + k).toNatClampNeg)).toInt = (L3.length : Int)) ∧ (∀ (i9 : Nat) (z9 : Int), L3[i9]? = some z9 → (M.1 9 1 (v2.toInt.toNat + i9)).toInt = z9) ∧ ∀ v3 : Int64, (v3 = L3.foldl mx (((31 : Int64) * p) + ((M.1 9 1 ((0 : Int32) + k).toNatClampNeg).toInt64))) → X 33 [some (zR 9 0), some (zL (v3)), none, some (zI (k + 1))] [] M) from ⟨fun q => have h := h.1 q; ⟨hk0, ⟨h.1, have h := h.2; ⟨hk0, h.elim (fun L1 h => ⟨L1, ⟨h.1, have h := h.2; ⟨h.1, have h := h.2; fun v1 => have h := h v1; fun q => have h := h q; ⟨hk0, ⟨hk0, h⟩⟩⟩⟩⟩)⟩⟩⟩, fun q => have h := h.2 q; ⟨hk0, ⟨h.1, have h := h.2; ⟨h.1, have h := h.2; fun v2 => have h := h v2; fun q => have h := h q; ⟨hk0, ⟨h.1, have h := h.2; ⟨hk0, h.elim (fun L3 h => ⟨L3, ⟨h.1, have h := h.2; ⟨h.1, have h := h.2; fun v3 => have h := h v3; fun q => have h := h q; h⟩⟩⟩)⟩⟩⟩⟩⟩⟩⟩)
