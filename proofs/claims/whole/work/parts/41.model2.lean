
def ovs (o : Option Ly) (y : Int) : Int := match o with
  | none => -1
  | some o => if y < o.2.2.2.1 then -1 else (if o.2.2.2.2 ≠ -1 ∧ o.2.2.2.2 < y then o.2.2.2.2 else y) - o.2.2.2.1
def sp_X8_begin : zSpec := fun kd as M K => match as with
  | [.inr (.inr (.inl (t, o)))] => (kd t = 8) ∧ (o = 1 ∨ o = 10) ∧ ∀ f : Nat → Int32, (∀ j9, j9 < 153 → f j9 = 0) → (∀ j9, 153 ≤ j9 → f j9 = M.1 t o j9) → ∀ M' : zM, (M' = zmw M t o f) → K none M'
  | _ => False
theorem dd_X8_begin_0 : decode cX8_begin 0 = .ok (.iconst 0, 1) := by decide +kernel
theorem dd_X8_begin_1 : decode cX8_begin 1 = .ok (.istore_n 1, 1) := by decide +kernel
theorem dd_X8_begin_2 : decode cX8_begin 2 = .ok (.iload_n 1, 1) := by decide +kernel
theorem dd_X8_begin_3 : decode cX8_begin 3 = .ok (.sipush 153, 3) := by decide +kernel
theorem dd_X8_begin_6 : decode cX8_begin 6 = .ok (.if_icmp .ge 13, 3) := by decide +kernel
theorem dd_X8_begin_9 : decode cX8_begin 9 = .ok (.aload_n 0, 1) := by decide +kernel
theorem dd_X8_begin_10 : decode cX8_begin 10 = .ok (.iload_n 1, 1) := by decide +kernel
theorem dd_X8_begin_11 : decode cX8_begin 11 = .ok (.iconst 0, 1) := by decide +kernel
theorem dd_X8_begin_12 : decode cX8_begin 12 = .ok (.iastore, 1) := by decide +kernel
theorem dd_X8_begin_13 : decode cX8_begin 13 = .ok (.iinc 1 1, 3) := by decide +kernel
theorem dd_X8_begin_16 : decode cX8_begin 16 = .ok (.goto (-14), 3) := by decide +kernel
theorem dd_X8_begin_19 : decode cX8_begin 19 = .ok (.return_, 1) := by decide +kernel
def tb_X8_begin (kd : Nat → Nat) (K : zK) : zTab := [(0, zt_const (zI 0) 1), (1, zt_istore 1 2), (2, zt_iload 1 3), (3, zt_const (zI 153) 6), (6, zt_icmp (fun x y => y ≤ x) (fun x y => ¬ y ≤ x) 19 9), (9, zt_aload 0 10), (10, zt_iload 1 11), (11, zt_const (zI 0) 12), (12, zt_ast kd 0 13), (13, zt_iinc 1 1 16), (16, zt_goto 2), (19, zt_vret K)]
set_option maxRecDepth 20000 in
theorem tk_X8_begin (d : Nat)  : zTrue RX8 cX8_begin 2 none (d + 1) (fun kd K => tb_X8_begin kd K) := by
  intro p l e R s m args below meth c D cy A ad bl Qm K C0 hr hlocks hQ
  obtain ⟨hx, hb, hml, hown, hts, hK, hD, hA0, hN, hE, ⟨hR1, hR2⟩, hc1, hc2⟩ := id C0
  unfold tb_X8_begin
  refine List.forall_mem_cons.mpr ⟨ok_iconst hx hb dd_X8_begin_0 (by decide), ?_⟩
  refine List.forall_mem_cons.mpr ⟨ok_istore_n hx hb rfl dd_X8_begin_1, ?_⟩
  refine List.forall_mem_cons.mpr ⟨ok_iload_n hx hb rfl dd_X8_begin_2, ?_⟩
  refine List.forall_mem_cons.mpr ⟨ok_sipush hx hb dd_X8_begin_3 (by decide), ?_⟩
  refine List.forall_mem_cons.mpr ⟨ok_icmp_ge hx hb dd_X8_begin_6 (by decide), ?_⟩
  refine List.forall_mem_cons.mpr ⟨ok_aload_n hx hb rfl dd_X8_begin_9, ?_⟩
  refine List.forall_mem_cons.mpr ⟨ok_iload_n hx hb rfl dd_X8_begin_10, ?_⟩
  refine List.forall_mem_cons.mpr ⟨ok_iconst hx hb dd_X8_begin_11 (by decide), ?_⟩
  refine List.forall_mem_cons.mpr ⟨ok_ast (ty := 0) rfl hx hb hK hD (Or.inl ⟨rfl, rfl, dd_X8_begin_12⟩), ?_⟩
  refine List.forall_mem_cons.mpr ⟨ok_iinc hx hb dd_X8_begin_13 (by decide), ?_⟩
  refine List.forall_mem_cons.mpr ⟨ok_goto hx hb dd_X8_begin_16 (by decide), ?_⟩
  refine List.forall_mem_cons.mpr ⟨ok_vret hx hb hr hlocks hQ dd_X8_begin_19, ?_⟩
  exact fun _ h => absurd h List.not_mem_nil
set_option maxRecDepth 100000 in
theorem vc_X8_begin_0 {kd : Nat → Nat} {K : zK} {X : zX} (hX : ∀ (n pc : Nat) (ls : zLS) (st : List zV) (M : zM), zrun (tb_X8_begin kd K) [(2, [])] n X pc ls st M → X pc ls st M) {t o : Nat} {M : zM}  (h : X 2 [some (zR t o), some (zI ((0 : Int32)))] [] M) : X 0 [some (zR t o), none] [] M := hX 4 0 _ [] M (show X 2 [some (zR t o), some (zI ((0 : Int32)))] [] M from h)
set_option maxRecDepth 100000 in
theorem vc_X8_begin_2 {kd : Nat → Nat} {K : zK} {X : zX} (hX : ∀ (n pc : Nat) (ls : zLS) (st : List zV) (M : zM), zrun (tb_X8_begin kd K) [(2, [])] n X pc ls st M → X pc ls st M) {t : Nat} {o : Nat} {k : Int32} {M : zM}  (h : (((153 : Int32) ≤ k) → K none M) ∧ ((¬ (153 : Int32) ≤ k) → (zin (kd t) o 0 k) ∧ ∀ M1 : zM, (M1 = zmw M t o (upd (M.1 t o) (k).toNatClampNeg (0 : Int32))) → X 2 [some (zR t o), some (zI (k + 1))] [] M1)) : X 2 [some (zR t o), some (zI (k))] [] M := hX 11 2 _ [] M (show (((153 : Int32) ≤ k) → K none M) ∧ ((¬ (153 : Int32) ≤ k) → (zin (kd t) o 0 k) ∧ ∀ M1 : zM, (M1 = zmw M t o (upd (M.1 t o) (k).toNatClampNeg (0 : Int32))) → X 2 [some (zR t o), some (zI (k + 1))] [] M1) from ⟨fun q => have h := h.1 q; h, fun q => have h := h.2 q; ⟨h.1, have h := h.2; fun M1 => have h := h M1; fun q => have h := h q; h⟩⟩)
def sp_X8_layHand : zSpec := fun kd as M K => match as with
  | [.inr (.inr (.inl (9, 0)))] => (kd 9 = 8) ∧ ∀ f : Nat → Int32, (∀ j9, j9 < 127 → f j9 = M.1 9 1 j9) → ∀ M' : zM, (M' = zmw M 9 5 f) → K none M'
  | _ => False
theorem rv_X8_layHand : zrv sp_X8_layHand 8 0 := by
  intro kd as M K h
  unfold sp_X8_layHand at h
  split at h
  · exact ⟨_, _, rfl, h.1⟩
  · exact h.elim
theorem dd_X8_layHand_0 : decode cX8_layHand 0 = .ok (.iconst 0, 1) := by decide +kernel
theorem dd_X8_layHand_1 : decode cX8_layHand 1 = .ok (.istore_n 1, 1) := by decide +kernel
theorem dd_X8_layHand_2 : decode cX8_layHand 2 = .ok (.iload_n 1, 1) := by decide +kernel
theorem dd_X8_layHand_3 : decode cX8_layHand 3 = .ok (.bipush 127, 2) := by decide +kernel
theorem dd_X8_layHand_5 : decode cX8_layHand 5 = .ok (.if_icmp .ge 21, 3) := by decide +kernel
theorem dd_X8_layHand_8 : decode cX8_layHand 8 = .ok (.aload_n 0, 1) := by decide +kernel
theorem dd_X8_layHand_9 : decode cX8_layHand 9 = .ok (.getfield 27, 3) := by decide +kernel
theorem dd_X8_layHand_12 : decode cX8_layHand 12 = .ok (.iload_n 1, 1) := by decide +kernel
theorem dd_X8_layHand_13 : decode cX8_layHand 13 = .ok (.aload_n 0, 1) := by decide +kernel
theorem dd_X8_layHand_14 : decode cX8_layHand 14 = .ok (.getfield 7, 3) := by decide +kernel
theorem dd_X8_layHand_17 : decode cX8_layHand 17 = .ok (.iload_n 1, 1) := by decide +kernel
theorem dd_X8_layHand_18 : decode cX8_layHand 18 = .ok (.iaload, 1) := by decide +kernel
theorem dd_X8_layHand_19 : decode cX8_layHand 19 = .ok (.iastore, 1) := by decide +kernel
theorem dd_X8_layHand_20 : decode cX8_layHand 20 = .ok (.iinc 1 1, 3) := by decide +kernel
theorem dd_X8_layHand_23 : decode cX8_layHand 23 = .ok (.goto (-21), 3) := by decide +kernel
theorem dd_X8_layHand_26 : decode cX8_layHand 26 = .ok (.return_, 1) := by decide +kernel
def tb_X8_layHand (kd : Nat → Nat) (K : zK) : zTab := [(0, zt_const (zI 0) 1), (1, zt_istore 1 2), (2, zt_iload 1 3), (3, zt_const (zI 127) 5), (5, zt_icmp (fun x y => y ≤ x) (fun x y => ¬ y ≤ x) 26 8), (8, zt_aload 0 9), (9, zt_getR kd 8 0 5 12), (12, zt_iload 1 13), (13, zt_aload 0 14), (14, zt_getR kd 8 0 1 17), (17, zt_iload 1 18), (18, zt_ald kd 0 19), (19, zt_ast kd 0 20), (20, zt_iinc 1 1 23), (23, zt_goto 2), (26, zt_vret K)]
set_option maxRecDepth 20000 in
theorem tk_X8_layHand (d : Nat)  : zTrue RX8 cX8_layHand 2 none (d + 1) (fun kd K => tb_X8_layHand kd K) := by
  intro p l e R s m args below meth c D cy A ad bl Qm K C0 hr hlocks hQ
  obtain ⟨hx, hb, hml, hown, hts, hK, hD, hA0, hN, hE, ⟨hR1, hR2⟩, hc1, hc2⟩ := id C0
  unfold tb_X8_layHand
  refine List.forall_mem_cons.mpr ⟨ok_iconst hx hb dd_X8_layHand_0 (by decide), ?_⟩
  refine List.forall_mem_cons.mpr ⟨ok_istore_n hx hb rfl dd_X8_layHand_1, ?_⟩
  refine List.forall_mem_cons.mpr ⟨ok_iload_n hx hb rfl dd_X8_layHand_2, ?_⟩
  refine List.forall_mem_cons.mpr ⟨ok_bipush hx hb dd_X8_layHand_3 (by decide), ?_⟩
  refine List.forall_mem_cons.mpr ⟨ok_icmp_ge hx hb dd_X8_layHand_5 (by decide), ?_⟩
  refine List.forall_mem_cons.mpr ⟨ok_aload_n hx hb rfl dd_X8_layHand_8, ?_⟩
  refine List.forall_mem_cons.mpr ⟨ok_getR (j := 6) hx hb hts zi_X8 hown hK zc_X8 (by decide) rfl (fun t fl h => by cases h; rfl) (hts _ wd_846) dd_X8_layHand_9, ?_⟩
  refine List.forall_mem_cons.mpr ⟨ok_iload_n hx hb rfl dd_X8_layHand_12, ?_⟩
  refine List.forall_mem_cons.mpr ⟨ok_aload_n hx hb rfl dd_X8_layHand_13, ?_⟩
  refine List.forall_mem_cons.mpr ⟨ok_getR (j := 0) hx hb hts zi_X8 hown hK zc_X8 (by decide) rfl (fun t fl h => by cases h; rfl) (hts _ wd_840) dd_X8_layHand_14, ?_⟩
  refine List.forall_mem_cons.mpr ⟨ok_iload_n hx hb rfl dd_X8_layHand_17, ?_⟩
  refine List.forall_mem_cons.mpr ⟨ok_ald (ty := 0) rfl hx hb hK (Or.inl ⟨rfl, rfl, dd_X8_layHand_18⟩), ?_⟩
  refine List.forall_mem_cons.mpr ⟨ok_ast (ty := 0) rfl hx hb hK hD (Or.inl ⟨rfl, rfl, dd_X8_layHand_19⟩), ?_⟩
  refine List.forall_mem_cons.mpr ⟨ok_iinc hx hb dd_X8_layHand_20 (by decide), ?_⟩
  refine List.forall_mem_cons.mpr ⟨ok_goto hx hb dd_X8_layHand_23 (by decide), ?_⟩
  refine List.forall_mem_cons.mpr ⟨ok_vret hx hb hr hlocks hQ dd_X8_layHand_26, ?_⟩
  exact fun _ h => absurd h List.not_mem_nil
set_option maxRecDepth 100000 in
theorem vc_X8_layHand_0 {kd : Nat → Nat} {K : zK} {X : zX} (hX : ∀ (n pc : Nat) (ls : zLS) (st : List zV) (M : zM), zrun (tb_X8_layHand kd K) [(2, [])] n X pc ls st M → X pc ls st M)  {M : zM}  (h : X 2 [some (zR 9 0), some (zI ((0 : Int32)))] [] M) : X 0 [some (zR 9 0), none] [] M := hX 4 0 _ [] M (show X 2 [some (zR 9 0), some (zI ((0 : Int32)))] [] M from h)
set_option maxRecDepth 100000 in
theorem vc_X8_layHand_2 {kd : Nat → Nat} {K : zK} {X : zX} (hX : ∀ (n pc : Nat) (ls : zLS) (st : List zV) (M : zM), zrun (tb_X8_layHand kd K) [(2, [])] n X pc ls st M → X pc ls st M) {k : Int32} {M : zM} (hk0 : kd 9 = 8) (h : (((127 : Int32) ≤ k) → K none M) ∧ ((¬ (127 : Int32) ≤ k) → (zin (kd 9) 1 0 k) ∧ (zin (kd 9) 5 0 k) ∧ ∀ M1 : zM, (M1 = zmw M 9 5 (upd (M.1 9 5) (k).toNatClampNeg (M.1 9 1 (k).toNatClampNeg))) → X 2 [some (zR 9 0), some (zI (k + 1))] [] M1)) : X 2 [some (zR 9 0), some (zI (k))] [] M := hX 15 2 _ [] M (show (((127 : Int32) ≤ k) → K none M) ∧ ((¬ (127 : Int32) ≤ k) → (kd 9 = 8) ∧ (kd 9 = 8) ∧ (zin (kd 9) 1 0 k) ∧ (zin (kd 9) 5 0 k) ∧ ∀ M1 : zM, (M1 = zmw M 9 5 (upd (M.1 9 5) (k).toNatClampNeg (M.1 9 1 (k).toNatClampNeg))) → X 2 [some (zR 9 0), some (zI (k + 1))] [] M1) from ⟨fun q => have h := h.1 q; h, fun q => have h := h.2 q; ⟨hk0, ⟨hk0, ⟨h.1, have h := h.2; ⟨h.1, have h := h.2; fun M1 => have h := h M1; fun q => have h := h q; h⟩⟩⟩⟩⟩)
def sp_X8_hands : zSpec := fun kd as M K => match as with
  | [.inr (.inr (.inl (9, 0))), .inl c, .inl i, .inl w] => (kd 9 = 8) ∧ ∃ a : Sk, (RpF (M.1 9 5) a) ∧ ∃ l : Ly, (sk_at a c.toInt i.toInt = some l) ∧ (0 ≤ w.toInt ∧ w.toInt < 5) ∧ ∀ v : Int32, (v.toInt = ly_f l w.toInt) → K (some (.inl v)) M
  | _ => False
theorem rv_X8_hands : zrv sp_X8_hands 8 3 := by
  intro kd as M K h
  unfold sp_X8_hands at h
  split at h
  · exact ⟨_, _, rfl, h.1⟩
  · exact h.elim
theorem dd_X8_hands_0 : decode cX8_hands 0 = .ok (.aload_n 0, 1) := by decide +kernel
theorem dd_X8_hands_1 : decode cX8_hands 1 = .ok (.getfield 27, 3) := by decide +kernel
theorem dd_X8_hands_4 : decode cX8_hands 4 = .ok (.iload_n 1, 1) := by decide +kernel
theorem dd_X8_hands_5 : decode cX8_hands 5 = .ok (.iload_n 2, 1) := by decide +kernel
theorem dd_X8_hands_6 : decode cX8_hands 6 = .ok (.iload_n 3, 1) := by decide +kernel
theorem dd_X8_hands_7 : decode cX8_hands 7 = .ok (.invokestatic 62, 3) := by decide +kernel
theorem dd_X8_hands_10 : decode cX8_hands 10 = .ok (.iaload, 1) := by decide +kernel
theorem dd_X8_hands_11 : decode cX8_hands 11 = .ok (.ireturn, 1) := by decide +kernel
def tb_X8_hands (kd : Nat → Nat) (K : zK) : zTab := [(0, zt_aload 0 1), (1, zt_getR kd 8 0 5 4), (4, zt_iload 1 5), (5, zt_iload 2 6), (6, zt_iload 3 7), (7, zt_call kd sp_X8_at 3 10), (10, zt_ald kd 0 11), (11, zt_iret K)]
set_option maxRecDepth 20000 in
theorem tk_X8_hands (d : Nat) (h_X8_at : zMS 1 yX8_at cX8_at 3 (some .int) sp_X8_at) : zTrue RX8 cX8_hands 4 (some .int) (d + 2) (fun kd K => tb_X8_hands kd K) := by
  intro p l e R s m args below meth c D cy A ad bl Qm K C0 hr hlocks hQ
  obtain ⟨hx, hb, hml, hown, hts, hK, hD, hA0, hN, hE, ⟨hR1, hR2⟩, hc1, hc2⟩ := id C0
  unfold tb_X8_hands
  refine List.forall_mem_cons.mpr ⟨ok_aload_n hx hb rfl dd_X8_hands_0, ?_⟩
  refine List.forall_mem_cons.mpr ⟨ok_getR (j := 6) hx hb hts zi_X8 hown hK zc_X8 (by decide) rfl (fun t fl h => by cases h; rfl) (hts _ wd_846) dd_X8_hands_1, ?_⟩
  refine List.forall_mem_cons.mpr ⟨ok_iload_n hx hb rfl dd_X8_hands_4, ?_⟩
  refine List.forall_mem_cons.mpr ⟨ok_iload_n hx hb rfl dd_X8_hands_5, ?_⟩
  refine List.forall_mem_cons.mpr ⟨ok_iload_n hx hb rfl dd_X8_hands_6, ?_⟩
  refine List.forall_mem_cons.mpr ⟨ok_callS (n := 3) C0 (h_X8_at (d + 1) (by omega)) (by decide) wd_942 wd_940 wd_941 wd_107 ⟨by decide +kernel, by decide +kernel, by decide +kernel⟩ dd_X8_hands_7, ?_⟩
  refine List.forall_mem_cons.mpr ⟨ok_ald (ty := 0) rfl hx hb hK (Or.inl ⟨rfl, rfl, dd_X8_hands_10⟩), ?_⟩
  refine List.forall_mem_cons.mpr ⟨ok_iret hx hb hr hlocks hQ dd_X8_hands_11, ?_⟩
  exact fun _ h => absurd h List.not_mem_nil
set_option maxRecDepth 100000 in
theorem vc_X8_hands_0 {kd : Nat → Nat} {K : zK} {X : zX} (hX : ∀ (n pc : Nat) (ls : zLS) (st : List zV) (M : zM), zrun (tb_X8_hands kd K) [] n X pc ls st M → X pc ls st M) {c : Int32} {i : Int32} {w : Int32} {M : zM} (hk0 : kd 9 = 8) (h : ((0 ≤ c.toInt ∧ c.toInt < 1000) ∧ (0 ≤ i.toInt ∧ i.toInt < 1000) ∧ 0 ≤ w.toInt ∧ w.toInt < 1000) ∧ ∀ v1 : Int32, (v1.toInt = 6 + 20 * c.toInt + 5 * i.toInt + w.toInt) → (zin (kd 9) 5 0 v1) ∧ K (some (zI (M.1 9 5 (v1).toNatClampNeg))) M) : X 0 [some (zR 9 0), some (zI (c)), some (zI (i)), some (zI (w))] [] M := hX 9 0 _ [] M (show (kd 9 = 8) ∧ ((0 ≤ c.toInt ∧ c.toInt < 1000) ∧ (0 ≤ i.toInt ∧ i.toInt < 1000) ∧ 0 ≤ w.toInt ∧ w.toInt < 1000) ∧ ∀ v1 : Int32, (v1.toInt = 6 + 20 * c.toInt + 5 * i.toInt + w.toInt) → (zin (kd 9) 5 0 v1) ∧ K (some (zI (M.1 9 5 (v1).toNatClampNeg))) M from ⟨hk0, ⟨h.1, have h := h.2; fun v1 => have h := h v1; fun q => have h := h q; ⟨h.1, have h := h.2; h⟩⟩⟩)
def sp_X8_overStood : zSpec := fun kd as M K => match as with
  | [.inr (.inr (.inl (9, 0))), .inl c, .inl i, .inl y] => (kd 9 = 8) ∧ ∃ a : Sk, (RpF (M.1 9 5) a) ∧ (isC c.toInt) ∧ (0 ≤ i.toInt ∧ i.toInt < 4) ∧ (0 ≤ y.toInt ∧ y.toInt < 1000000) ∧ ∀ v : Int32, (v.toInt = ovs (sk_at a c.toInt (i.toInt + 1)) y.toInt) → K (some (.inl v)) M
  | _ => False
theorem rv_X8_overStood : zrv sp_X8_overStood 8 3 := by
  intro kd as M K h
  unfold sp_X8_overStood at h
  split at h
  · exact ⟨_, _, rfl, h.1⟩
  · exact h.elim
theorem dd_X8_overStood_0 : decode cX8_overStood 0 = .ok (.iload_n 2, 1) := by decide +kernel
theorem dd_X8_overStood_1 : decode cX8_overStood 1 = .ok (.iconst 1, 1) := by decide +kernel
theorem dd_X8_overStood_2 : decode cX8_overStood 2 = .ok (.iadd, 1) := by decide +kernel
theorem dd_X8_overStood_3 : decode cX8_overStood 3 = .ok (.aload_n 0, 1) := by decide +kernel
theorem dd_X8_overStood_4 : decode cX8_overStood 4 = .ok (.getfield 27, 3) := by decide +kernel
theorem dd_X8_overStood_7 : decode cX8_overStood 7 = .ok (.iconst 0, 1) := by decide +kernel
theorem dd_X8_overStood_8 : decode cX8_overStood 8 = .ok (.iload_n 1, 1) := by decide +kernel
theorem dd_X8_overStood_9 : decode cX8_overStood 9 = .ok (.iadd, 1) := by decide +kernel
theorem dd_X8_overStood_10 : decode cX8_overStood 10 = .ok (.iaload, 1) := by decide +kernel
theorem dd_X8_overStood_11 : decode cX8_overStood 11 = .ok (.if_icmp .ge 16, 3) := by decide +kernel
theorem dd_X8_overStood_14 : decode cX8_overStood 14 = .ok (.aload_n 0, 1) := by decide +kernel
theorem dd_X8_overStood_15 : decode cX8_overStood 15 = .ok (.iload_n 1, 1) := by decide +kernel
theorem dd_X8_overStood_16 : decode cX8_overStood 16 = .ok (.iload_n 2, 1) := by decide +kernel
theorem dd_X8_overStood_17 : decode cX8_overStood 17 = .ok (.iconst 1, 1) := by decide +kernel
theorem dd_X8_overStood_18 : decode cX8_overStood 18 = .ok (.iadd, 1) := by decide +kernel
theorem dd_X8_overStood_19 : decode cX8_overStood 19 = .ok (.iconst 3, 1) := by decide +kernel
theorem dd_X8_overStood_20 : decode cX8_overStood 20 = .ok (.invokevirtual 113, 3) := by decide +kernel
theorem dd_X8_overStood_23 : decode cX8_overStood 23 = .ok (.iload_n 3, 1) := by decide +kernel
theorem dd_X8_overStood_24 : decode cX8_overStood 24 = .ok (.if_icmp .le 5, 3) := by decide +kernel
theorem dd_X8_overStood_27 : decode cX8_overStood 27 = .ok (.iconst (-1), 1) := by decide +kernel
theorem dd_X8_overStood_28 : decode cX8_overStood 28 = .ok (.ireturn, 1) := by decide +kernel
theorem dd_X8_overStood_29 : decode cX8_overStood 29 = .ok (.aload_n 0, 1) := by decide +kernel
theorem dd_X8_overStood_30 : decode cX8_overStood 30 = .ok (.iload_n 1, 1) := by decide +kernel
theorem dd_X8_overStood_31 : decode cX8_overStood 31 = .ok (.iload_n 2, 1) := by decide +kernel
theorem dd_X8_overStood_32 : decode cX8_overStood 32 = .ok (.iconst 1, 1) := by decide +kernel
theorem dd_X8_overStood_33 : decode cX8_overStood 33 = .ok (.iadd, 1) := by decide +kernel
theorem dd_X8_overStood_34 : decode cX8_overStood 34 = .ok (.iconst 4, 1) := by decide +kernel
theorem dd_X8_overStood_35 : decode cX8_overStood 35 = .ok (.invokevirtual 113, 3) := by decide +kernel
theorem dd_X8_overStood_38 : decode cX8_overStood 38 = .ok (.istore 4, 2) := by decide +kernel
theorem dd_X8_overStood_40 : decode cX8_overStood 40 = .ok (.iload 4, 2) := by decide +kernel
theorem dd_X8_overStood_42 : decode cX8_overStood 42 = .ok (.iconst (-1), 1) := by decide +kernel
theorem dd_X8_overStood_43 : decode cX8_overStood 43 = .ok (.if_icmp .eq 14, 3) := by decide +kernel
theorem dd_X8_overStood_46 : decode cX8_overStood 46 = .ok (.iload 4, 2) := by decide +kernel
theorem dd_X8_overStood_48 : decode cX8_overStood 48 = .ok (.iload_n 3, 1) := by decide +kernel
theorem dd_X8_overStood_49 : decode cX8_overStood 49 = .ok (.if_icmp .ge 8, 3) := by decide +kernel
theorem dd_X8_overStood_52 : decode cX8_overStood 52 = .ok (.iload 4, 2) := by decide +kernel
theorem dd_X8_overStood_54 : decode cX8_overStood 54 = .ok (.goto 4, 3) := by decide +kernel
theorem dd_X8_overStood_57 : decode cX8_overStood 57 = .ok (.iload_n 3, 1) := by decide +kernel
theorem dd_X8_overStood_58 : decode cX8_overStood 58 = .ok (.aload_n 0, 1) := by decide +kernel
theorem dd_X8_overStood_59 : decode cX8_overStood 59 = .ok (.iload_n 1, 1) := by decide +kernel
theorem dd_X8_overStood_60 : decode cX8_overStood 60 = .ok (.iload_n 2, 1) := by decide +kernel
theorem dd_X8_overStood_61 : decode cX8_overStood 61 = .ok (.iconst 1, 1) := by decide +kernel
theorem dd_X8_overStood_62 : decode cX8_overStood 62 = .ok (.iadd, 1) := by decide +kernel
theorem dd_X8_overStood_63 : decode cX8_overStood 63 = .ok (.iconst 3, 1) := by decide +kernel
theorem dd_X8_overStood_64 : decode cX8_overStood 64 = .ok (.invokevirtual 113, 3) := by decide +kernel
theorem dd_X8_overStood_67 : decode cX8_overStood 67 = .ok (.isub, 1) := by decide +kernel
theorem dd_X8_overStood_68 : decode cX8_overStood 68 = .ok (.ireturn, 1) := by decide +kernel
def tb_X8_overStood (kd : Nat → Nat) (K : zK) : zTab := [(0, zt_iload 2 1), (1, zt_const (zI 1) 2), (2, zt_bin (fun x y => x + y) 3), (3, zt_aload 0 4), (4, zt_getR kd 8 0 5 7), (7, zt_const (zI 0) 8), (8, zt_iload 1 9), (9, zt_bin (fun x y => x + y) 10), (10, zt_ald kd 0 11), (11, zt_icmp (fun x y => y ≤ x) (fun x y => ¬ y ≤ x) 27 14), (14, zt_aload 0 15), (15, zt_iload 1 16), (16, zt_iload 2 17), (17, zt_const (zI 1) 18), (18, zt_bin (fun x y => x + y) 19), (19, zt_const (zI 3) 20), (20, zt_call kd sp_X8_hands 4 23), (23, zt_iload 3 24), (24, zt_icmp (fun x y => x ≤ y) (fun x y => ¬ x ≤ y) 29 27), (27, zt_const (zI (-1)) 28), (28, zt_iret K), (29, zt_aload 0 30), (30, zt_iload 1 31), (31, zt_iload 2 32), (32, zt_const (zI 1) 33), (33, zt_bin (fun x y => x + y) 34), (34, zt_const (zI 4) 35), (35, zt_call kd sp_X8_hands 4 38), (38, zt_istore 4 40), (40, zt_iload 4 42), (42, zt_const (zI (-1)) 43), (43, zt_icmp (fun x y => x = y) (fun x y => ¬ x = y) 57 46), (46, zt_iload 4 48), (48, zt_iload 3 49), (49, zt_icmp (fun x y => y ≤ x) (fun x y => ¬ y ≤ x) 57 52), (52, zt_iload 4 54), (54, zt_goto 58), (57, zt_iload 3 58), (58, zt_aload 0 59), (59, zt_iload 1 60), (60, zt_iload 2 61), (61, zt_const (zI 1) 62), (62, zt_bin (fun x y => x + y) 63), (63, zt_const (zI 3) 64), (64, zt_call kd sp_X8_hands 4 67), (67, zt_bin (fun x y => x - y) 68), (68, zt_iret K)]
set_option maxRecDepth 20000 in
theorem tk_X8_overStood (d : Nat) (h_X8_hands : zMS 2 yX8_hands cX8_hands 4 (some .int) sp_X8_hands) : zTrue RX8 cX8_overStood 5 (some .int) (d + 3) (fun kd K => tb_X8_overStood kd K) := by
  intro p l e R s m args below meth c D cy A ad bl Qm K C0 hr hlocks hQ
  obtain ⟨hx, hb, hml, hown, hts, hK, hD, hA0, hN, hE, ⟨hR1, hR2⟩, hc1, hc2⟩ := id C0
  unfold tb_X8_overStood
  refine List.forall_mem_cons.mpr ⟨ok_iload_n hx hb rfl dd_X8_overStood_0, ?_⟩
  refine List.forall_mem_cons.mpr ⟨ok_iconst hx hb dd_X8_overStood_1 (by decide), ?_⟩
  refine List.forall_mem_cons.mpr ⟨ok_iadd hx hb dd_X8_overStood_2, ?_⟩
  refine List.forall_mem_cons.mpr ⟨ok_aload_n hx hb rfl dd_X8_overStood_3, ?_⟩
  refine List.forall_mem_cons.mpr ⟨ok_getR (j := 6) hx hb hts zi_X8 hown hK zc_X8 (by decide) rfl (fun t fl h => by cases h; rfl) (hts _ wd_846) dd_X8_overStood_4, ?_⟩
  refine List.forall_mem_cons.mpr ⟨ok_iconst hx hb dd_X8_overStood_7 (by decide), ?_⟩
  refine List.forall_mem_cons.mpr ⟨ok_iload_n hx hb rfl dd_X8_overStood_8, ?_⟩
  refine List.forall_mem_cons.mpr ⟨ok_iadd hx hb dd_X8_overStood_9, ?_⟩
  refine List.forall_mem_cons.mpr ⟨ok_ald (ty := 0) rfl hx hb hK (Or.inl ⟨rfl, rfl, dd_X8_overStood_10⟩), ?_⟩
  refine List.forall_mem_cons.mpr ⟨ok_icmp_ge hx hb dd_X8_overStood_11 (by decide), ?_⟩
  refine List.forall_mem_cons.mpr ⟨ok_aload_n hx hb rfl dd_X8_overStood_14, ?_⟩
  refine List.forall_mem_cons.mpr ⟨ok_iload_n hx hb rfl dd_X8_overStood_15, ?_⟩
  refine List.forall_mem_cons.mpr ⟨ok_iload_n hx hb rfl dd_X8_overStood_16, ?_⟩
  refine List.forall_mem_cons.mpr ⟨ok_iconst hx hb dd_X8_overStood_17 (by decide), ?_⟩
  refine List.forall_mem_cons.mpr ⟨ok_iadd hx hb dd_X8_overStood_18, ?_⟩
  refine List.forall_mem_cons.mpr ⟨ok_iconst hx hb dd_X8_overStood_19 (by decide), ?_⟩
  refine List.forall_mem_cons.mpr ⟨ok_callV (n := 3) zc_X8 rv_X8_hands C0 (h_X8_hands (d + 2) (by omega)) (by decide) wd_1008 wd_1005 wd_1007 wd_69 wd_107 ⟨rfl, by decide +kernel, by decide +kernel, by decide +kernel⟩ dd_X8_overStood_20, ?_⟩
  refine List.forall_mem_cons.mpr ⟨ok_iload_n hx hb rfl dd_X8_overStood_23, ?_⟩
  refine List.forall_mem_cons.mpr ⟨ok_icmp_le hx hb dd_X8_overStood_24 (by decide), ?_⟩
  refine List.forall_mem_cons.mpr ⟨ok_iconst hx hb dd_X8_overStood_27 (by decide), ?_⟩
  refine List.forall_mem_cons.mpr ⟨ok_iret hx hb hr hlocks hQ dd_X8_overStood_28, ?_⟩
  refine List.forall_mem_cons.mpr ⟨ok_aload_n hx hb rfl dd_X8_overStood_29, ?_⟩
  refine List.forall_mem_cons.mpr ⟨ok_iload_n hx hb rfl dd_X8_overStood_30, ?_⟩
  refine List.forall_mem_cons.mpr ⟨ok_iload_n hx hb rfl dd_X8_overStood_31, ?_⟩
  refine List.forall_mem_cons.mpr ⟨ok_iconst hx hb dd_X8_overStood_32 (by decide), ?_⟩
  refine List.forall_mem_cons.mpr ⟨ok_iadd hx hb dd_X8_overStood_33, ?_⟩
  refine List.forall_mem_cons.mpr ⟨ok_iconst hx hb dd_X8_overStood_34 (by decide), ?_⟩
  refine List.forall_mem_cons.mpr ⟨ok_callV (n := 3) zc_X8 rv_X8_hands C0 (h_X8_hands (d + 2) (by omega)) (by decide) wd_1008 wd_1005 wd_1007 wd_69 wd_107 ⟨rfl, by decide +kernel, by decide +kernel, by decide +kernel⟩ dd_X8_overStood_35, ?_⟩
  refine List.forall_mem_cons.mpr ⟨ok_istore hx hb dd_X8_overStood_38, ?_⟩
  refine List.forall_mem_cons.mpr ⟨ok_iload hx hb dd_X8_overStood_40, ?_⟩
  refine List.forall_mem_cons.mpr ⟨ok_iconst hx hb dd_X8_overStood_42 (by decide), ?_⟩
  refine List.forall_mem_cons.mpr ⟨ok_icmp_eq hx hb dd_X8_overStood_43 (by decide), ?_⟩
  refine List.forall_mem_cons.mpr ⟨ok_iload hx hb dd_X8_overStood_46, ?_⟩
  refine List.forall_mem_cons.mpr ⟨ok_iload_n hx hb rfl dd_X8_overStood_48, ?_⟩
  refine List.forall_mem_cons.mpr ⟨ok_icmp_ge hx hb dd_X8_overStood_49 (by decide), ?_⟩
  refine List.forall_mem_cons.mpr ⟨ok_iload hx hb dd_X8_overStood_52, ?_⟩
  refine List.forall_mem_cons.mpr ⟨ok_goto hx hb dd_X8_overStood_54 (by decide), ?_⟩
  refine List.forall_mem_cons.mpr ⟨ok_iload_n hx hb rfl dd_X8_overStood_57, ?_⟩
  refine List.forall_mem_cons.mpr ⟨ok_aload_n hx hb rfl dd_X8_overStood_58, ?_⟩
  refine List.forall_mem_cons.mpr ⟨ok_iload_n hx hb rfl dd_X8_overStood_59, ?_⟩
  refine List.forall_mem_cons.mpr ⟨ok_iload_n hx hb rfl dd_X8_overStood_60, ?_⟩
  refine List.forall_mem_cons.mpr ⟨ok_iconst hx hb dd_X8_overStood_61 (by decide), ?_⟩
  refine List.forall_mem_cons.mpr ⟨ok_iadd hx hb dd_X8_overStood_62, ?_⟩
  refine List.forall_mem_cons.mpr ⟨ok_iconst hx hb dd_X8_overStood_63 (by decide), ?_⟩
  refine List.forall_mem_cons.mpr ⟨ok_callV (n := 3) zc_X8 rv_X8_hands C0 (h_X8_hands (d + 2) (by omega)) (by decide) wd_1008 wd_1005 wd_1007 wd_69 wd_107 ⟨rfl, by decide +kernel, by decide +kernel, by decide +kernel⟩ dd_X8_overStood_64, ?_⟩
  refine List.forall_mem_cons.mpr ⟨ok_isub hx hb dd_X8_overStood_67, ?_⟩
  refine List.forall_mem_cons.mpr ⟨ok_iret hx hb hr hlocks hQ dd_X8_overStood_68, ?_⟩
  exact fun _ h => absurd h List.not_mem_nil
set_option maxRecDepth 100000 in
theorem vc_X8_overStood_0 {kd : Nat → Nat} {K : zK} {X : zX} (hX : ∀ (n pc : Nat) (ls : zLS) (st : List zV) (M : zM), zrun (tb_X8_overStood kd K) [] n X pc ls st M → X pc ls st M) {c : Int32} {i : Int32} {y : Int32} {M : zM} (hk0 : kd 9 = 8) (h : (zin (kd 9) 5 0 ((0 : Int32) + c)) ∧ (((M.1 9 5 ((0 : Int32) + c).toNatClampNeg) ≤ (i + (1 : Int32))) → K (some (zI ((-1 : Int32)))) M) ∧ ((¬ (M.1 9 5 ((0 : Int32) + c).toNatClampNeg) ≤ (i + (1 : Int32))) → ∃ a1 : Sk, (RpF (M.1 9 5) a1) ∧ ∃ l1 : Ly, (sk_at a1 c.toInt (i + (1 : Int32)).toInt = some l1) ∧ (0 ≤ (3 : Int32).toInt ∧ (3 : Int32).toInt < 5) ∧ ∀ v1 : Int32, (v1.toInt = ly_f l1 (3 : Int32).toInt) → ((v1 ≤ y) → ∃ a2 : Sk, (RpF (M.1 9 5) a2) ∧ ∃ l2 : Ly, (sk_at a2 c.toInt (i + (1 : Int32)).toInt = some l2) ∧ (0 ≤ (4 : Int32).toInt ∧ (4 : Int32).toInt < 5) ∧ ∀ v2 : Int32, (v2.toInt = ly_f l2 (4 : Int32).toInt) → ((v2 = (-1 : Int32)) → ∃ a3 : Sk, (RpF (M.1 9 5) a3) ∧ ∃ l3 : Ly, (sk_at a3 c.toInt (i + (1 : Int32)).toInt = some l3) ∧ (0 ≤ (3 : Int32).toInt ∧ (3 : Int32).toInt < 5) ∧ ∀ v3 : Int32, (v3.toInt = ly_f l3 (3 : Int32).toInt) → K (some (zI (y - v3))) M) ∧ ((¬ v2 = (-1 : Int32)) → ((y ≤ v2) → ∃ a4 : Sk, (RpF (M.1 9 5) a4) ∧ ∃ l4 : Ly, (sk_at a4 c.toInt (i + (1 : Int32)).toInt = some l4) ∧ (0 ≤ (3 : Int32).toInt ∧ (3 : Int32).toInt < 5) ∧ ∀ v4 : Int32, (v4.toInt = ly_f l4 (3 : Int32).toInt) → K (some (zI (y - v4))) M) ∧ ((¬ y ≤ v2) → ∃ a5 : Sk, (RpF (M.1 9 5) a5) ∧ ∃ l5 : Ly, (sk_at a5 c.toInt (i + (1 : Int32)).toInt = some l5) ∧ (0 ≤ (3 : Int32).toInt ∧ (3 : Int32).toInt < 5) ∧ ∀ v5 : Int32, (v5.toInt = ly_f l5 (3 : Int32).toInt) → K (some (zI (v2 - v5))) M))) ∧ ((¬ v1 ≤ y) → K (some (zI ((-1 : Int32)))) M))) : X 0 [some (zR 9 0), some (zI (c)), some (zI (i)), some (zI (y)), none] [] M := hX 45 0 _ [] M (show (kd 9 = 8) ∧ (zin (kd 9) 5 0 ((0 : Int32) + c)) ∧ (((M.1 9 5 ((0 : Int32) + c).toNatClampNeg) ≤ (i + (1 : Int32))) → K (some (zI ((-1 : Int32)))) M) ∧ ((¬ (M.1 9 5 ((0 : Int32) + c).toNatClampNeg) ≤ (i + (1 : Int32))) → (kd 9 = 8) ∧ ∃ a1 : Sk, (RpF (M.1 9 5) a1) ∧ ∃ l1 : Ly, (sk_at a1 c.toInt (i + (1 : Int32)).toInt = some l1) ∧ (0 ≤ (3 : Int32).toInt ∧ (3 : Int32).toInt < 5) ∧ ∀ v1 : Int32, (v1.toInt = ly_f l1 (3 : Int32).toInt) → ((v1 ≤ y) → (kd 9 = 8) ∧ ∃ a2 : Sk, (RpF (M.1 9 5) a2) ∧ ∃ l2 : Ly, (sk_at a2 c.toInt (i + (1 : Int32)).toInt = some l2) ∧ (0 ≤ (4 : Int32).toInt ∧ (4 : Int32).toInt < 5) ∧ ∀ v2 : Int32, (v2.toInt = ly_f l2 (4 : Int32).toInt) → ((v2 = (-1 : Int32)) → (kd 9 = 8) ∧ ∃ a3 : Sk, (RpF (M.1 9 5) a3) ∧ ∃ l3 : Ly, (sk_at a3 c.toInt (i + (1 : Int32)).toInt = some l3) ∧ (0 ≤ (3 : Int32).toInt ∧ (3 : Int32).toInt < 5) ∧ ∀ v3 : Int32, (v3.toInt = ly_f l3 (3 : Int32).toInt) → K (some (zI (y - v3))) M) ∧ ((¬ v2 = (-1 : Int32)) → ((y ≤ v2) → (kd 9 = 8) ∧ ∃ a4 : Sk, (RpF (M.1 9 5) a4) ∧ ∃ l4 : Ly, (sk_at a4 c.toInt (i + (1 : Int32)).toInt = some l4) ∧ (0 ≤ (3 : Int32).toInt ∧ (3 : Int32).toInt < 5) ∧ ∀ v4 : Int32, (v4.toInt = ly_f l4 (3 : Int32).toInt) → K (some (zI (y - v4))) M) ∧ ((¬ y ≤ v2) → (kd 9 = 8) ∧ ∃ a5 : Sk, (RpF (M.1 9 5) a5) ∧ ∃ l5 : Ly, (sk_at a5 c.toInt (i + (1 : Int32)).toInt = some l5) ∧ (0 ≤ (3 : Int32).toInt ∧ (3 : Int32).toInt < 5) ∧ ∀ v5 : Int32, (v5.toInt = ly_f l5 (3 : Int32).toInt) → K (some (zI (v2 - v5))) M))) ∧ ((¬ v1 ≤ y) → K (some (zI ((-1 : Int32)))) M)) from ⟨hk0, ⟨h.1, have h := h.2; ⟨fun q => have h := h.1 q; h, fun q => have h := h.2 q; ⟨hk0, h.elim (fun a1 h => ⟨a1, ⟨h.1, have h := h.2; h.elim (fun l1 h => ⟨l1, ⟨h.1, have h := h.2; ⟨h.1, have h := h.2; fun v1 => have h := h v1; fun q => have h := h q; ⟨fun q => have h := h.1 q; ⟨hk0, h.elim (fun a2 h => ⟨a2, ⟨h.1, have h := h.2; h.elim (fun l2 h => ⟨l2, ⟨h.1, have h := h.2; ⟨h.1, have h := h.2; fun v2 => have h := h v2; fun q => have h := h q; ⟨fun q => have h := h.1 q; ⟨hk0, h.elim (fun a3 h => ⟨a3, ⟨h.1, have h := h.2; h.elim (fun l3 h => ⟨l3, ⟨h.1, have h := h.2; ⟨h.1, have h := h.2; fun v3 => have h := h v3; fun q => have h := h q; h⟩⟩⟩)⟩⟩)⟩, fun q => have h := h.2 q; ⟨fun q => have h := h.1 q; ⟨hk0, h.elim (fun a4 h => ⟨a4, ⟨h.1, have h := h.2; h.elim (fun l4 h => ⟨l4, ⟨h.1, have h := h.2; ⟨h.1, have h := h.2; fun v4 => have h := h v4; fun q => have h := h q; h⟩⟩⟩)⟩⟩)⟩, fun q => have h := h.2 q; ⟨hk0, h.elim (fun a5 h => ⟨a5, ⟨h.1, have h := h.2; h.elim (fun l5 h => ⟨l5, ⟨h.1, have h := h.2; ⟨h.1, have h := h.2; fun v5 => have h := h v5; fun q => have h := h q; h⟩⟩⟩)⟩⟩)⟩⟩⟩⟩⟩⟩)⟩⟩)⟩, fun q => have h := h.2 q; h⟩⟩⟩⟩)⟩⟩)⟩⟩⟩⟩)
def sp_X8_bindsAs : zSpec := fun kd as M K => match as with
  | [.inr (.inr (.inl (9, 0))), .inl c, .inl i, .inl y, .inl k] => (kd 9 = 8) ∧ ∃ a : Sk, (RpF (M.1 9 5) a) ∧ ∃ l : Ly, (sk_at a c.toInt i.toInt = some l) ∧ (0 ≤ y.toInt ∧ y.toInt < 1000000) ∧ ∀ v : Int32, (v = zp (bnd k.toInt l (sk_at a c.toInt (i.toInt + 1)) y.toInt = true)) → K (some (.inl v)) M
  | _ => False
theorem rv_X8_bindsAs : zrv sp_X8_bindsAs 8 4 := by
  intro kd as M K h
  unfold sp_X8_bindsAs at h
  split at h
  · exact ⟨_, _, rfl, h.1⟩
  · exact h.elim
theorem dd_X8_bindsAs_0 : decode cX8_bindsAs 0 = .ok (.aload_n 0, 1) := by decide +kernel
theorem dd_X8_bindsAs_1 : decode cX8_bindsAs 1 = .ok (.iload_n 1, 1) := by decide +kernel
theorem dd_X8_bindsAs_2 : decode cX8_bindsAs 2 = .ok (.iload_n 2, 1) := by decide +kernel
theorem dd_X8_bindsAs_3 : decode cX8_bindsAs 3 = .ok (.iconst 4, 1) := by decide +kernel
theorem dd_X8_bindsAs_4 : decode cX8_bindsAs 4 = .ok (.invokevirtual 113, 3) := by decide +kernel
theorem dd_X8_bindsAs_7 : decode cX8_bindsAs 7 = .ok (.istore 5, 2) := by decide +kernel
theorem dd_X8_bindsAs_9 : decode cX8_bindsAs 9 = .ok (.aload_n 0, 1) := by decide +kernel
theorem dd_X8_bindsAs_10 : decode cX8_bindsAs 10 = .ok (.iload_n 1, 1) := by decide +kernel
theorem dd_X8_bindsAs_11 : decode cX8_bindsAs 11 = .ok (.iload_n 2, 1) := by decide +kernel
theorem dd_X8_bindsAs_12 : decode cX8_bindsAs 12 = .ok (.iconst 3, 1) := by decide +kernel
theorem dd_X8_bindsAs_13 : decode cX8_bindsAs 13 = .ok (.invokevirtual 113, 3) := by decide +kernel
theorem dd_X8_bindsAs_16 : decode cX8_bindsAs 16 = .ok (.iload_n 3, 1) := by decide +kernel
theorem dd_X8_bindsAs_17 : decode cX8_bindsAs 17 = .ok (.if_icmp .le 5, 3) := by decide +kernel
theorem dd_X8_bindsAs_20 : decode cX8_bindsAs 20 = .ok (.iconst 0, 1) := by decide +kernel
theorem dd_X8_bindsAs_21 : decode cX8_bindsAs 21 = .ok (.ireturn, 1) := by decide +kernel
theorem dd_X8_bindsAs_22 : decode cX8_bindsAs 22 = .ok (.iload 5, 2) := by decide +kernel
theorem dd_X8_bindsAs_24 : decode cX8_bindsAs 24 = .ok (.iconst (-1), 1) := by decide +kernel
theorem dd_X8_bindsAs_25 : decode cX8_bindsAs 25 = .ok (.if_icmp .eq 9, 3) := by decide +kernel
theorem dd_X8_bindsAs_28 : decode cX8_bindsAs 28 = .ok (.iload 5, 2) := by decide +kernel
theorem dd_X8_bindsAs_30 : decode cX8_bindsAs 30 = .ok (.iload_n 3, 1) := by decide +kernel
theorem dd_X8_bindsAs_31 : decode cX8_bindsAs 31 = .ok (.if_icmp .le 21, 3) := by decide +kernel
theorem dd_X8_bindsAs_34 : decode cX8_bindsAs 34 = .ok (.iload 4, 2) := by decide +kernel
theorem dd_X8_bindsAs_36 : decode cX8_bindsAs 36 = .ok (.iconst 1, 1) := by decide +kernel
theorem dd_X8_bindsAs_37 : decode cX8_bindsAs 37 = .ok (.if_icmp .eq 13, 3) := by decide +kernel
theorem dd_X8_bindsAs_40 : decode cX8_bindsAs 40 = .ok (.iload 4, 2) := by decide +kernel
theorem dd_X8_bindsAs_42 : decode cX8_bindsAs 42 = .ok (.iconst 5, 1) := by decide +kernel
theorem dd_X8_bindsAs_43 : decode cX8_bindsAs 43 = .ok (.if_icmp .eq 7, 3) := by decide +kernel
theorem dd_X8_bindsAs_46 : decode cX8_bindsAs 46 = .ok (.iconst 1, 1) := by decide +kernel
theorem dd_X8_bindsAs_47 : decode cX8_bindsAs 47 = .ok (.goto 4, 3) := by decide +kernel
theorem dd_X8_bindsAs_50 : decode cX8_bindsAs 50 = .ok (.iconst 0, 1) := by decide +kernel
theorem dd_X8_bindsAs_51 : decode cX8_bindsAs 51 = .ok (.ireturn, 1) := by decide +kernel
theorem dd_X8_bindsAs_52 : decode cX8_bindsAs 52 = .ok (.iload 5, 2) := by decide +kernel
theorem dd_X8_bindsAs_54 : decode cX8_bindsAs 54 = .ok (.aload_n 0, 1) := by decide +kernel
theorem dd_X8_bindsAs_55 : decode cX8_bindsAs 55 = .ok (.iload_n 1, 1) := by decide +kernel
theorem dd_X8_bindsAs_56 : decode cX8_bindsAs 56 = .ok (.iload_n 2, 1) := by decide +kernel
theorem dd_X8_bindsAs_57 : decode cX8_bindsAs 57 = .ok (.iconst 3, 1) := by decide +kernel
theorem dd_X8_bindsAs_58 : decode cX8_bindsAs 58 = .ok (.invokevirtual 113, 3) := by decide +kernel
theorem dd_X8_bindsAs_61 : decode cX8_bindsAs 61 = .ok (.isub, 1) := by decide +kernel
theorem dd_X8_bindsAs_62 : decode cX8_bindsAs 62 = .ok (.istore 6, 2) := by decide +kernel
theorem dd_X8_bindsAs_64 : decode cX8_bindsAs 64 = .ok (.iload 4, 2) := by decide +kernel
theorem dd_X8_bindsAs_66 : decode cX8_bindsAs 66 = .ok (.iconst 2, 1) := by decide +kernel
theorem dd_X8_bindsAs_67 : decode cX8_bindsAs 67 = .ok (.if_icmp .ne 10, 3) := by decide +kernel
theorem dd_X8_bindsAs_70 : decode cX8_bindsAs 70 = .ok (.iload 6, 2) := by decide +kernel
theorem dd_X8_bindsAs_72 : decode cX8_bindsAs 72 = .ok (.iconst 2, 1) := by decide +kernel
theorem dd_X8_bindsAs_73 : decode cX8_bindsAs 73 = .ok (.idiv, 1) := by decide +kernel
theorem dd_X8_bindsAs_74 : decode cX8_bindsAs 74 = .ok (.goto 31, 3) := by decide +kernel
theorem dd_X8_bindsAs_77 : decode cX8_bindsAs 77 = .ok (.iload 4, 2) := by decide +kernel
theorem dd_X8_bindsAs_79 : decode cX8_bindsAs 79 = .ok (.iconst 4, 1) := by decide +kernel
theorem dd_X8_bindsAs_80 : decode cX8_bindsAs 80 = .ok (.if_icmp .ne 10, 3) := by decide +kernel
theorem dd_X8_bindsAs_83 : decode cX8_bindsAs 83 = .ok (.iconst 2, 1) := by decide +kernel
theorem dd_X8_bindsAs_84 : decode cX8_bindsAs 84 = .ok (.iload 6, 2) := by decide +kernel
theorem dd_X8_bindsAs_86 : decode cX8_bindsAs 86 = .ok (.imul, 1) := by decide +kernel
theorem dd_X8_bindsAs_87 : decode cX8_bindsAs 87 = .ok (.goto 18, 3) := by decide +kernel
theorem dd_X8_bindsAs_90 : decode cX8_bindsAs 90 = .ok (.iload 4, 2) := by decide +kernel
theorem dd_X8_bindsAs_92 : decode cX8_bindsAs 92 = .ok (.iconst 5, 1) := by decide +kernel
theorem dd_X8_bindsAs_93 : decode cX8_bindsAs 93 = .ok (.if_icmp .ne 10, 3) := by decide +kernel
theorem dd_X8_bindsAs_96 : decode cX8_bindsAs 96 = .ok (.iload 6, 2) := by decide +kernel
theorem dd_X8_bindsAs_98 : decode cX8_bindsAs 98 = .ok (.iconst 3, 1) := by decide +kernel
theorem dd_X8_bindsAs_99 : decode cX8_bindsAs 99 = .ok (.iadd, 1) := by decide +kernel
theorem dd_X8_bindsAs_100 : decode cX8_bindsAs 100 = .ok (.goto 5, 3) := by decide +kernel
theorem dd_X8_bindsAs_103 : decode cX8_bindsAs 103 = .ok (.iload 6, 2) := by decide +kernel
theorem dd_X8_bindsAs_105 : decode cX8_bindsAs 105 = .ok (.istore 7, 2) := by decide +kernel
theorem dd_X8_bindsAs_107 : decode cX8_bindsAs 107 = .ok (.aload_n 0, 1) := by decide +kernel
theorem dd_X8_bindsAs_108 : decode cX8_bindsAs 108 = .ok (.iload_n 1, 1) := by decide +kernel
theorem dd_X8_bindsAs_109 : decode cX8_bindsAs 109 = .ok (.iload_n 2, 1) := by decide +kernel
theorem dd_X8_bindsAs_110 : decode cX8_bindsAs 110 = .ok (.iload_n 3, 1) := by decide +kernel
theorem dd_X8_bindsAs_111 : decode cX8_bindsAs 111 = .ok (.invokevirtual 116, 3) := by decide +kernel
theorem dd_X8_bindsAs_114 : decode cX8_bindsAs 114 = .ok (.istore 8, 2) := by decide +kernel
theorem dd_X8_bindsAs_116 : decode cX8_bindsAs 116 = .ok (.iload 4, 2) := by decide +kernel
theorem dd_X8_bindsAs_118 : decode cX8_bindsAs 118 = .ok (.iconst 3, 1) := by decide +kernel
theorem dd_X8_bindsAs_119 : decode cX8_bindsAs 119 = .ok (.if_icmp .eq 20, 3) := by decide +kernel
theorem dd_X8_bindsAs_122 : decode cX8_bindsAs 122 = .ok (.iload 8, 2) := by decide +kernel
theorem dd_X8_bindsAs_124 : decode cX8_bindsAs 124 = .ok (.iconst (-1), 1) := by decide +kernel
theorem dd_X8_bindsAs_125 : decode cX8_bindsAs 125 = .ok (.if_icmp .eq 10, 3) := by decide +kernel
theorem dd_X8_bindsAs_128 : decode cX8_bindsAs 128 = .ok (.iload 8, 2) := by decide +kernel
theorem dd_X8_bindsAs_130 : decode cX8_bindsAs 130 = .ok (.iload 7, 2) := by decide +kernel
theorem dd_X8_bindsAs_132 : decode cX8_bindsAs 132 = .ok (.if_icmp .ge 7, 3) := by decide +kernel
theorem dd_X8_bindsAs_135 : decode cX8_bindsAs 135 = .ok (.iconst 1, 1) := by decide +kernel
theorem dd_X8_bindsAs_136 : decode cX8_bindsAs 136 = .ok (.goto 4, 3) := by decide +kernel
theorem dd_X8_bindsAs_139 : decode cX8_bindsAs 139 = .ok (.iconst 0, 1) := by decide +kernel
theorem dd_X8_bindsAs_140 : decode cX8_bindsAs 140 = .ok (.ireturn, 1) := by decide +kernel
def tb_X8_bindsAs (kd : Nat → Nat) (K : zK) : zTab := [(0, zt_aload 0 1), (1, zt_iload 1 2), (2, zt_iload 2 3), (3, zt_const (zI 4) 4), (4, zt_call kd sp_X8_hands 4 7), (7, zt_istore 5 9), (9, zt_aload 0 10), (10, zt_iload 1 11), (11, zt_iload 2 12), (12, zt_const (zI 3) 13), (13, zt_call kd sp_X8_hands 4 16), (16, zt_iload 3 17), (17, zt_icmp (fun x y => x ≤ y) (fun x y => ¬ x ≤ y) 22 20), (20, zt_const (zI 0) 21), (21, zt_zret K), (22, zt_iload 5 24), (24, zt_const (zI (-1)) 25), (25, zt_icmp (fun x y => x = y) (fun x y => ¬ x = y) 34 28), (28, zt_iload 5 30), (30, zt_iload 3 31), (31, zt_icmp (fun x y => x ≤ y) (fun x y => ¬ x ≤ y) 52 34), (34, zt_iload 4 36), (36, zt_const (zI 1) 37), (37, zt_icmp (fun x y => x = y) (fun x y => ¬ x = y) 50 40), (40, zt_iload 4 42), (42, zt_const (zI 5) 43), (43, zt_icmp (fun x y => x = y) (fun x y => ¬ x = y) 50 46), (46, zt_const (zI 1) 47), (47, zt_goto 51), (50, zt_const (zI 0) 51), (51, zt_zret K), (52, zt_iload 5 54), (54, zt_aload 0 55), (55, zt_iload 1 56), (56, zt_iload 2 57), (57, zt_const (zI 3) 58), (58, zt_call kd sp_X8_hands 4 61), (61, zt_bin (fun x y => x - y) 62), (62, zt_istore 6 64), (64, zt_iload 4 66), (66, zt_const (zI 2) 67), (67, zt_icmp (fun x y => ¬ x = y) (fun x y => x = y) 77 70), (70, zt_iload 6 72), (72, zt_const (zI 2) 73), (73, zt_div (fun x y => x / y) 74), (74, zt_goto 105), (77, zt_iload 4 79), (79, zt_const (zI 4) 80), (80, zt_icmp (fun x y => ¬ x = y) (fun x y => x = y) 90 83), (83, zt_const (zI 2) 84), (84, zt_iload 6 86), (86, zt_bin (fun x y => x * y) 87), (87, zt_goto 105), (90, zt_iload 4 92), (92, zt_const (zI 5) 93), (93, zt_icmp (fun x y => ¬ x = y) (fun x y => x = y) 103 96), (96, zt_iload 6 98), (98, zt_const (zI 3) 99), (99, zt_bin (fun x y => x + y) 100), (100, zt_goto 105), (103, zt_iload 6 105), (105, zt_istore 7 107), (107, zt_aload 0 108), (108, zt_iload 1 109), (109, zt_iload 2 110), (110, zt_iload 3 111), (111, zt_call kd sp_X8_overStood 4 114), (114, zt_istore 8 116), (116, zt_iload 4 118), (118, zt_const (zI 3) 119), (119, zt_icmp (fun x y => x = y) (fun x y => ¬ x = y) 139 122), (122, zt_iload 8 124), (124, zt_const (zI (-1)) 125), (125, zt_icmp (fun x y => x = y) (fun x y => ¬ x = y) 135 128), (128, zt_iload 8 130), (130, zt_iload 7 132), (132, zt_icmp (fun x y => y ≤ x) (fun x y => ¬ y ≤ x) 139 135), (135, zt_const (zI 1) 136), (136, zt_goto 140), (139, zt_const (zI 0) 140), (140, zt_zret K)]
set_option maxRecDepth 20000 in
theorem tk_X8_bindsAs (d : Nat) (h_X8_hands : zMS 2 yX8_hands cX8_hands 4 (some .int) sp_X8_hands) (h_X8_overStood : zMS 3 yX8_overStood cX8_overStood 5 (some .int) sp_X8_overStood) : zTrue RX8 cX8_bindsAs 9 (some .boolean) (d + 4) (fun kd K => tb_X8_bindsAs kd K) := by
  intro p l e R s m args below meth c D cy A ad bl Qm K C0 hr hlocks hQ
  obtain ⟨hx, hb, hml, hown, hts, hK, hD, hA0, hN, hE, ⟨hR1, hR2⟩, hc1, hc2⟩ := id C0
  unfold tb_X8_bindsAs
  refine List.forall_mem_cons.mpr ⟨ok_aload_n hx hb rfl dd_X8_bindsAs_0, ?_⟩
  refine List.forall_mem_cons.mpr ⟨ok_iload_n hx hb rfl dd_X8_bindsAs_1, ?_⟩
  refine List.forall_mem_cons.mpr ⟨ok_iload_n hx hb rfl dd_X8_bindsAs_2, ?_⟩
  refine List.forall_mem_cons.mpr ⟨ok_iconst hx hb dd_X8_bindsAs_3 (by decide), ?_⟩
  refine List.forall_mem_cons.mpr ⟨ok_callV (n := 3) zc_X8 rv_X8_hands C0 (h_X8_hands (d + 3) (by omega)) (by decide) wd_1008 wd_1005 wd_1007 wd_69 wd_107 ⟨rfl, by decide +kernel, by decide +kernel, by decide +kernel⟩ dd_X8_bindsAs_4, ?_⟩
  refine List.forall_mem_cons.mpr ⟨ok_istore hx hb dd_X8_bindsAs_7, ?_⟩
  refine List.forall_mem_cons.mpr ⟨ok_aload_n hx hb rfl dd_X8_bindsAs_9, ?_⟩
  refine List.forall_mem_cons.mpr ⟨ok_iload_n hx hb rfl dd_X8_bindsAs_10, ?_⟩
  refine List.forall_mem_cons.mpr ⟨ok_iload_n hx hb rfl dd_X8_bindsAs_11, ?_⟩
  refine List.forall_mem_cons.mpr ⟨ok_iconst hx hb dd_X8_bindsAs_12 (by decide), ?_⟩
  refine List.forall_mem_cons.mpr ⟨ok_callV (n := 3) zc_X8 rv_X8_hands C0 (h_X8_hands (d + 3) (by omega)) (by decide) wd_1008 wd_1005 wd_1007 wd_69 wd_107 ⟨rfl, by decide +kernel, by decide +kernel, by decide +kernel⟩ dd_X8_bindsAs_13, ?_⟩
  refine List.forall_mem_cons.mpr ⟨ok_iload_n hx hb rfl dd_X8_bindsAs_16, ?_⟩
  refine List.forall_mem_cons.mpr ⟨ok_icmp_le hx hb dd_X8_bindsAs_17 (by decide), ?_⟩
  refine List.forall_mem_cons.mpr ⟨ok_iconst hx hb dd_X8_bindsAs_20 (by decide), ?_⟩
  refine List.forall_mem_cons.mpr ⟨ok_zret hx hb hr hlocks hQ dd_X8_bindsAs_21, ?_⟩
  refine List.forall_mem_cons.mpr ⟨ok_iload hx hb dd_X8_bindsAs_22, ?_⟩
  refine List.forall_mem_cons.mpr ⟨ok_iconst hx hb dd_X8_bindsAs_24 (by decide), ?_⟩
  refine List.forall_mem_cons.mpr ⟨ok_icmp_eq hx hb dd_X8_bindsAs_25 (by decide), ?_⟩
  refine List.forall_mem_cons.mpr ⟨ok_iload hx hb dd_X8_bindsAs_28, ?_⟩
  refine List.forall_mem_cons.mpr ⟨ok_iload_n hx hb rfl dd_X8_bindsAs_30, ?_⟩
  refine List.forall_mem_cons.mpr ⟨ok_icmp_le hx hb dd_X8_bindsAs_31 (by decide), ?_⟩
  refine List.forall_mem_cons.mpr ⟨ok_iload hx hb dd_X8_bindsAs_34, ?_⟩
  refine List.forall_mem_cons.mpr ⟨ok_iconst hx hb dd_X8_bindsAs_36 (by decide), ?_⟩
  refine List.forall_mem_cons.mpr ⟨ok_icmp_eq hx hb dd_X8_bindsAs_37 (by decide), ?_⟩
  refine List.forall_mem_cons.mpr ⟨ok_iload hx hb dd_X8_bindsAs_40, ?_⟩
  refine List.forall_mem_cons.mpr ⟨ok_iconst hx hb dd_X8_bindsAs_42 (by decide), ?_⟩
  refine List.forall_mem_cons.mpr ⟨ok_icmp_eq hx hb dd_X8_bindsAs_43 (by decide), ?_⟩
  refine List.forall_mem_cons.mpr ⟨ok_iconst hx hb dd_X8_bindsAs_46 (by decide), ?_⟩
  refine List.forall_mem_cons.mpr ⟨ok_goto hx hb dd_X8_bindsAs_47 (by decide), ?_⟩
  refine List.forall_mem_cons.mpr ⟨ok_iconst hx hb dd_X8_bindsAs_50 (by decide), ?_⟩
  refine List.forall_mem_cons.mpr ⟨ok_zret hx hb hr hlocks hQ dd_X8_bindsAs_51, ?_⟩
  refine List.forall_mem_cons.mpr ⟨ok_iload hx hb dd_X8_bindsAs_52, ?_⟩
  refine List.forall_mem_cons.mpr ⟨ok_aload_n hx hb rfl dd_X8_bindsAs_54, ?_⟩
  refine List.forall_mem_cons.mpr ⟨ok_iload_n hx hb rfl dd_X8_bindsAs_55, ?_⟩
  refine List.forall_mem_cons.mpr ⟨ok_iload_n hx hb rfl dd_X8_bindsAs_56, ?_⟩
  refine List.forall_mem_cons.mpr ⟨ok_iconst hx hb dd_X8_bindsAs_57 (by decide), ?_⟩
  refine List.forall_mem_cons.mpr ⟨ok_callV (n := 3) zc_X8 rv_X8_hands C0 (h_X8_hands (d + 3) (by omega)) (by decide) wd_1008 wd_1005 wd_1007 wd_69 wd_107 ⟨rfl, by decide +kernel, by decide +kernel, by decide +kernel⟩ dd_X8_bindsAs_58, ?_⟩
  refine List.forall_mem_cons.mpr ⟨ok_isub hx hb dd_X8_bindsAs_61, ?_⟩
  refine List.forall_mem_cons.mpr ⟨ok_istore hx hb dd_X8_bindsAs_62, ?_⟩
  refine List.forall_mem_cons.mpr ⟨ok_iload hx hb dd_X8_bindsAs_64, ?_⟩
  refine List.forall_mem_cons.mpr ⟨ok_iconst hx hb dd_X8_bindsAs_66 (by decide), ?_⟩
  refine List.forall_mem_cons.mpr ⟨ok_icmp_ne hx hb dd_X8_bindsAs_67 (by decide), ?_⟩
  refine List.forall_mem_cons.mpr ⟨ok_iload hx hb dd_X8_bindsAs_70, ?_⟩
  refine List.forall_mem_cons.mpr ⟨ok_iconst hx hb dd_X8_bindsAs_72 (by decide), ?_⟩
  refine List.forall_mem_cons.mpr ⟨ok_idiv hx hb dd_X8_bindsAs_73, ?_⟩
  refine List.forall_mem_cons.mpr ⟨ok_goto hx hb dd_X8_bindsAs_74 (by decide), ?_⟩
  refine List.forall_mem_cons.mpr ⟨ok_iload hx hb dd_X8_bindsAs_77, ?_⟩
  refine List.forall_mem_cons.mpr ⟨ok_iconst hx hb dd_X8_bindsAs_79 (by decide), ?_⟩
  refine List.forall_mem_cons.mpr ⟨ok_icmp_ne hx hb dd_X8_bindsAs_80 (by decide), ?_⟩
  refine List.forall_mem_cons.mpr ⟨ok_iconst hx hb dd_X8_bindsAs_83 (by decide), ?_⟩
  refine List.forall_mem_cons.mpr ⟨ok_iload hx hb dd_X8_bindsAs_84, ?_⟩
  refine List.forall_mem_cons.mpr ⟨ok_imul hx hb dd_X8_bindsAs_86, ?_⟩
  refine List.forall_mem_cons.mpr ⟨ok_goto hx hb dd_X8_bindsAs_87 (by decide), ?_⟩
  refine List.forall_mem_cons.mpr ⟨ok_iload hx hb dd_X8_bindsAs_90, ?_⟩
  refine List.forall_mem_cons.mpr ⟨ok_iconst hx hb dd_X8_bindsAs_92 (by decide), ?_⟩
  refine List.forall_mem_cons.mpr ⟨ok_icmp_ne hx hb dd_X8_bindsAs_93 (by decide), ?_⟩
  refine List.forall_mem_cons.mpr ⟨ok_iload hx hb dd_X8_bindsAs_96, ?_⟩
  refine List.forall_mem_cons.mpr ⟨ok_iconst hx hb dd_X8_bindsAs_98 (by decide), ?_⟩
  refine List.forall_mem_cons.mpr ⟨ok_iadd hx hb dd_X8_bindsAs_99, ?_⟩
  refine List.forall_mem_cons.mpr ⟨ok_goto hx hb dd_X8_bindsAs_100 (by decide), ?_⟩
  refine List.forall_mem_cons.mpr ⟨ok_iload hx hb dd_X8_bindsAs_103, ?_⟩
  refine List.forall_mem_cons.mpr ⟨ok_istore hx hb dd_X8_bindsAs_105, ?_⟩
  refine List.forall_mem_cons.mpr ⟨ok_aload_n hx hb rfl dd_X8_bindsAs_107, ?_⟩
  refine List.forall_mem_cons.mpr ⟨ok_iload_n hx hb rfl dd_X8_bindsAs_108, ?_⟩
  refine List.forall_mem_cons.mpr ⟨ok_iload_n hx hb rfl dd_X8_bindsAs_109, ?_⟩
  refine List.forall_mem_cons.mpr ⟨ok_iload_n hx hb rfl dd_X8_bindsAs_110, ?_⟩
  refine List.forall_mem_cons.mpr ⟨ok_callV (n := 3) zc_X8 rv_X8_overStood C0 (h_X8_overStood (d + 3) (by omega)) (by decide) wd_1016 wd_1013 wd_1015 wd_71 wd_107 ⟨rfl, by decide +kernel, by decide +kernel, by decide +kernel⟩ dd_X8_bindsAs_111, ?_⟩
  refine List.forall_mem_cons.mpr ⟨ok_istore hx hb dd_X8_bindsAs_114, ?_⟩
  refine List.forall_mem_cons.mpr ⟨ok_iload hx hb dd_X8_bindsAs_116, ?_⟩
  refine List.forall_mem_cons.mpr ⟨ok_iconst hx hb dd_X8_bindsAs_118 (by decide), ?_⟩
  refine List.forall_mem_cons.mpr ⟨ok_icmp_eq hx hb dd_X8_bindsAs_119 (by decide), ?_⟩
  refine List.forall_mem_cons.mpr ⟨ok_iload hx hb dd_X8_bindsAs_122, ?_⟩
  refine List.forall_mem_cons.mpr ⟨ok_iconst hx hb dd_X8_bindsAs_124 (by decide), ?_⟩
  refine List.forall_mem_cons.mpr ⟨ok_icmp_eq hx hb dd_X8_bindsAs_125 (by decide), ?_⟩
  refine List.forall_mem_cons.mpr ⟨ok_iload hx hb dd_X8_bindsAs_128, ?_⟩
  refine List.forall_mem_cons.mpr ⟨ok_iload hx hb dd_X8_bindsAs_130, ?_⟩
  refine List.forall_mem_cons.mpr ⟨ok_icmp_ge hx hb dd_X8_bindsAs_132 (by decide), ?_⟩
  refine List.forall_mem_cons.mpr ⟨ok_iconst hx hb dd_X8_bindsAs_135 (by decide), ?_⟩
  refine List.forall_mem_cons.mpr ⟨ok_goto hx hb dd_X8_bindsAs_136 (by decide), ?_⟩
  refine List.forall_mem_cons.mpr ⟨ok_iconst hx hb dd_X8_bindsAs_139 (by decide), ?_⟩
  refine List.forall_mem_cons.mpr ⟨ok_zret hx hb hr hlocks hQ dd_X8_bindsAs_140, ?_⟩
  exact fun _ h => absurd h List.not_mem_nil
set_option maxRecDepth 100000 in
theorem vc_X8_bindsAs_0 {kd : Nat → Nat} {K : zK} {X : zX} (hX : ∀ (n pc : Nat) (ls : zLS) (st : List zV) (M : zM), zrun (tb_X8_bindsAs kd K) [(107, [8])] n X pc ls st M → X pc ls st M) {c : Int32} {i : Int32} {y : Int32} {k : Int32} {M : zM} (hk0 : kd 9 = 8) (h : ∃ a1 : Sk, (RpF (M.1 9 5) a1) ∧ ∃ l1 : Ly, (sk_at a1 c.toInt i.toInt = some l1) ∧ (0 ≤ (4 : Int32).toInt ∧ (4 : Int32).toInt < 5) ∧ ∀ v1 : Int32, (v1.toInt = ly_f l1 (4 : Int32).toInt) → ∃ a2 : Sk, (RpF (M.1 9 5) a2) ∧ ∃ l2 : Ly, (sk_at a2 c.toInt i.toInt = some l2) ∧ (0 ≤ (3 : Int32).toInt ∧ (3 : Int32).toInt < 5) ∧ ∀ v2 : Int32, (v2.toInt = ly_f l2 (3 : Int32).toInt) → ((v2 ≤ y) → ((v1 = (-1 : Int32)) → ((k = (1 : Int32)) → K (some (zI ((0 : Int32)))) M) ∧ ((¬ k = (1 : Int32)) → ((k = (5 : Int32)) → K (some (zI ((0 : Int32)))) M) ∧ ((¬ k = (5 : Int32)) → K (some (zI ((1 : Int32)))) M))) ∧ ((¬ v1 = (-1 : Int32)) → ((v1 ≤ y) → ∃ a3 : Sk, (RpF (M.1 9 5) a3) ∧ ∃ l3 : Ly, (sk_at a3 c.toInt i.toInt = some l3) ∧ (0 ≤ (3 : Int32).toInt ∧ (3 : Int32).toInt < 5) ∧ ∀ v3 : Int32, (v3.toInt = ly_f l3 (3 : Int32).toInt) → ((¬ k = (2 : Int32)) → ((¬ k = (4 : Int32)) → ((¬ k = (5 : Int32)) → X 107 [some (zR 9 0), some (zI (c)), some (zI (i)), some (zI (y)), some (zI (k)), some (zI (v1)), some (zI (v1 - v3)), some (zI (v1 - v3)), none] [] M) ∧ ((k = (5 : Int32)) → X 107 [some (zR 9 0), some (zI (c)), some (zI (i)), some (zI (y)), some (zI (k)), some (zI (v1)), some (zI (v1 - v3)), some (zI ((v1 - v3) + (3 : Int32))), none] [] M)) ∧ ((k = (4 : Int32)) → X 107 [some (zR 9 0), some (zI (c)), some (zI (i)), some (zI (y)), some (zI (k)), some (zI (v1)), some (zI (v1 - v3)), some (zI ((2 : Int32) * (v1 - v3))), none] [] M)) ∧ ((k = (2 : Int32)) → X 107 [some (zR 9 0), some (zI (c)), some (zI (i)), some (zI (y)), some (zI (k)), some (zI (v1)), some (zI (v1 - v3)), some (zI ((v1 - v3) / (2 : Int32))), none] [] M)) ∧ ((¬ v1 ≤ y) → ((k = (1 : Int32)) → K (some (zI ((0 : Int32)))) M) ∧ ((¬ k = (1 : Int32)) → ((k = (5 : Int32)) → K (some (zI ((0 : Int32)))) M) ∧ ((¬ k = (5 : Int32)) → K (some (zI ((1 : Int32)))) M))))) ∧ ((¬ v2 ≤ y) → K (some (zI ((0 : Int32)))) M)) : X 0 [some (zR 9 0), some (zI (c)), some (zI (i)), some (zI (y)), some (zI (k)), none, none, none, none] [] M := hX 43 0 _ [] M (show (kd 9 = 8) ∧ ∃ a1 : Sk, (RpF (M.1 9 5) a1) ∧ ∃ l1 : Ly, (sk_at a1 c.toInt i.toInt = some l1) ∧ (0 ≤ (4 : Int32).toInt ∧ (4 : Int32).toInt < 5) ∧ ∀ v1 : Int32, (v1.toInt = ly_f l1 (4 : Int32).toInt) → (kd 9 = 8) ∧ ∃ a2 : Sk, (RpF (M.1 9 5) a2) ∧ ∃ l2 : Ly, (sk_at a2 c.toInt i.toInt = some l2) ∧ (0 ≤ (3 : Int32).toInt ∧ (3 : Int32).toInt < 5) ∧ ∀ v2 : Int32, (v2.toInt = ly_f l2 (3 : Int32).toInt) → ((v2 ≤ y) → ((v1 = (-1 : Int32)) → ((k = (1 : Int32)) → ((0 : Int32) = 0 ∨ (0 : Int32) = 1) ∧ K (some (zI ((0 : Int32)))) M) ∧ ((¬ k = (1 : Int32)) → ((k = (5 : Int32)) → ((0 : Int32) = 0 ∨ (0 : Int32) = 1) ∧ K (some (zI ((0 : Int32)))) M) ∧ ((¬ k = (5 : Int32)) → ((1 : Int32) = 0 ∨ (1 : Int32) = 1) ∧ K (some (zI ((1 : Int32)))) M))) ∧ ((¬ v1 = (-1 : Int32)) → ((v1 ≤ y) → (kd 9 = 8) ∧ ∃ a3 : Sk, (RpF (M.1 9 5) a3) ∧ ∃ l3 : Ly, (sk_at a3 c.toInt i.toInt = some l3) ∧ (0 ≤ (3 : Int32).toInt ∧ (3 : Int32).toInt < 5) ∧ ∀ v3 : Int32, (v3.toInt = ly_f l3 (3 : Int32).toInt) → ((¬ k = (2 : Int32)) → ((¬ k = (4 : Int32)) → ((¬ k = (5 : Int32)) → X 107 [some (zR 9 0), some (zI (c)), some (zI (i)), some (zI (y)), some (zI (k)), some (zI (v1)), some (zI (v1 - v3)), some (zI (v1 - v3)), none] [] M) ∧ ((k = (5 : Int32)) → X 107 [some (zR 9 0), some (zI (c)), some (zI (i)), some (zI (y)), some (zI (k)), some (zI (v1)), some (zI (v1 - v3)), some (zI ((v1 - v3) + (3 : Int32))), none] [] M)) ∧ ((k = (4 : Int32)) → X 107 [some (zR 9 0), some (zI (c)), some (zI (i)), some (zI (y)), some (zI (k)), some (zI (v1)), some (zI (v1 - v3)), some (zI ((2 : Int32) * (v1 - v3))), none] [] M)) ∧ ((k = (2 : Int32)) → (¬ (2 : Int32) = 0) ∧ X 107 [some (zR 9 0), some (zI (c)), some (zI (i)), some (zI (y)), some (zI (k)), some (zI (v1)), some (zI (v1 - v3)), some (zI ((v1 - v3) / (2 : Int32))), none] [] M)) ∧ ((¬ v1 ≤ y) → ((k = (1 : Int32)) → ((0 : Int32) = 0 ∨ (0 : Int32) = 1) ∧ K (some (zI ((0 : Int32)))) M) ∧ ((¬ k = (1 : Int32)) → ((k = (5 : Int32)) → ((0 : Int32) = 0 ∨ (0 : Int32) = 1) ∧ K (some (zI ((0 : Int32)))) M) ∧ ((¬ k = (5 : Int32)) → ((1 : Int32) = 0 ∨ (1 : Int32) = 1) ∧ K (some (zI ((1 : Int32)))) M))))) ∧ ((¬ v2 ≤ y) → ((0 : Int32) = 0 ∨ (0 : Int32) = 1) ∧ K (some (zI ((0 : Int32)))) M) from ⟨hk0, h.elim (fun a1 h => ⟨a1, ⟨h.1, have h := h.2; h.elim (fun l1 h => ⟨l1, ⟨h.1, have h := h.2; ⟨h.1, have h := h.2; fun v1 => have h := h v1; fun q => have h := h q; ⟨hk0, h.elim (fun a2 h => ⟨a2, ⟨h.1, have h := h.2; h.elim (fun l2 h => ⟨l2, ⟨h.1, have h := h.2; ⟨h.1, have h := h.2; fun v2 => have h := h v2; fun q => have h := h q; ⟨fun q => have h := h.1 q; ⟨fun q => have h := h.1 q; ⟨fun q => have h := h.1 q; ⟨(Or.inl rfl), h⟩, fun q => have h := h.2 q; ⟨fun q => have h := h.1 q; ⟨(Or.inl rfl), h⟩, fun q => have h := h.2 q; ⟨(Or.inr rfl), h⟩⟩⟩, fun q => have h := h.2 q; ⟨fun q => have h := h.1 q; ⟨hk0, h.elim (fun a3 h => ⟨a3, ⟨h.1, have h := h.2; h.elim (fun l3 h => ⟨l3, ⟨h.1, have h := h.2; ⟨h.1, have h := h.2; fun v3 => have h := h v3; fun q => have h := h q; ⟨fun q => have h := h.1 q; ⟨fun q => have h := h.1 q; ⟨fun q => have h := h.1 q; h, fun q => have h := h.2 q; h⟩, fun q => have h := h.2 q; h⟩, fun q => have h := h.2 q; ⟨(by decide), h⟩⟩⟩⟩⟩)⟩⟩)⟩, fun q => have h := h.2 q; ⟨fun q => have h := h.1 q; ⟨(Or.inl rfl), h⟩, fun q => have h := h.2 q; ⟨fun q => have h := h.1 q; ⟨(Or.inl rfl), h⟩, fun q => have h := h.2 q; ⟨(Or.inr rfl), h⟩⟩⟩⟩⟩, fun q => have h := h.2 q; ⟨(Or.inl rfl), h⟩⟩⟩⟩⟩)⟩⟩)⟩⟩⟩⟩)⟩⟩)⟩)
set_option maxRecDepth 100000 in
theorem vc_X8_bindsAs_107 {kd : Nat → Nat} {K : zK} {X : zX} (hX : ∀ (n pc : Nat) (ls : zLS) (st : List zV) (M : zM), zrun (tb_X8_bindsAs kd K) [(107, [8])] n X pc ls st M → X pc ls st M) {c : Int32} {i : Int32} {y : Int32} {k : Int32} {r : Int32} {s : Int32} {n : Int32} {M : zM} (hk0 : kd 9 = 8) (h : ∃ a1 : Sk, (RpF (M.1 9 5) a1) ∧ (isC c.toInt) ∧ (0 ≤ i.toInt ∧ i.toInt < 4) ∧ (0 ≤ y.toInt ∧ y.toInt < 1000000) ∧ ∀ v1 : Int32, (v1.toInt = ovs (sk_at a1 c.toInt (i.toInt + 1)) y.toInt) → ((k = (3 : Int32)) → K (some (zI ((0 : Int32)))) M) ∧ ((¬ k = (3 : Int32)) → ((v1 = (-1 : Int32)) → K (some (zI ((1 : Int32)))) M) ∧ ((¬ v1 = (-1 : Int32)) → ((n ≤ v1) → K (some (zI ((0 : Int32)))) M) ∧ ((¬ n ≤ v1) → K (some (zI ((1 : Int32)))) M)))) : X 107 [some (zR 9 0), some (zI (c)), some (zI (i)), some (zI (y)), some (zI (k)), some (zI (r)), some (zI (s)), some (zI (n)), none] [] M := hX 19 107 _ [] M (show (kd 9 = 8) ∧ ∃ a1 : Sk, (RpF (M.1 9 5) a1) ∧ (isC c.toInt) ∧ (0 ≤ i.toInt ∧ i.toInt < 4) ∧ (0 ≤ y.toInt ∧ y.toInt < 1000000) ∧ ∀ v1 : Int32, (v1.toInt = ovs (sk_at a1 c.toInt (i.toInt + 1)) y.toInt) → ((k = (3 : Int32)) → ((0 : Int32) = 0 ∨ (0 : Int32) = 1) ∧ K (some (zI ((0 : Int32)))) M) ∧ ((¬ k = (3 : Int32)) → ((v1 = (-1 : Int32)) → ((1 : Int32) = 0 ∨ (1 : Int32) = 1) ∧ K (some (zI ((1 : Int32)))) M) ∧ ((¬ v1 = (-1 : Int32)) → ((n ≤ v1) → ((0 : Int32) = 0 ∨ (0 : Int32) = 1) ∧ K (some (zI ((0 : Int32)))) M) ∧ ((¬ n ≤ v1) → ((1 : Int32) = 0 ∨ (1 : Int32) = 1) ∧ K (some (zI ((1 : Int32)))) M))) from ⟨hk0, h.elim (fun a1 h => ⟨a1, ⟨h.1, have h := h.2; ⟨h.1, have h := h.2; ⟨h.1, have h := h.2; ⟨h.1, have h := h.2; fun v1 => have h := h v1; fun q => have h := h q; ⟨fun q => have h := h.1 q; ⟨(Or.inl rfl), h⟩, fun q => have h := h.2 q; ⟨fun q => have h := h.1 q; ⟨(Or.inr rfl), h⟩, fun q => have h := h.2 q; ⟨fun q => have h := h.1 q; ⟨(Or.inl rfl), h⟩, fun q => have h := h.2 q; ⟨(Or.inr rfl), h⟩⟩⟩⟩⟩⟩⟩⟩⟩)⟩)
def sp_X8_bindsNow : zSpec := fun kd as M K => match as with
  | [.inr (.inr (.inl (9, 0))), .inl c, .inl i, .inl y] => (kd 9 = 8) ∧ ∃ a : Sk, (RpF (M.1 9 5) a) ∧ (¬ sk_at a c.toInt i.toInt = none) ∧ (0 ≤ y.toInt ∧ y.toInt < 1000000) ∧ ∀ v : Int32, (v = zp (sk_bd a c.toInt i.toInt y.toInt = true)) → K (some (.inl v)) M
  | _ => False
theorem rv_X8_bindsNow : zrv sp_X8_bindsNow 8 3 := by
  intro kd as M K h
  unfold sp_X8_bindsNow at h
  split at h
  · exact ⟨_, _, rfl, h.1⟩
  · exact h.elim
theorem dd_X8_bindsNow_0 : decode cX8_bindsNow 0 = .ok (.aload_n 0, 1) := by decide +kernel
theorem dd_X8_bindsNow_1 : decode cX8_bindsNow 1 = .ok (.iload_n 1, 1) := by decide +kernel
theorem dd_X8_bindsNow_2 : decode cX8_bindsNow 2 = .ok (.iload_n 2, 1) := by decide +kernel
theorem dd_X8_bindsNow_3 : decode cX8_bindsNow 3 = .ok (.iload_n 3, 1) := by decide +kernel
theorem dd_X8_bindsNow_4 : decode cX8_bindsNow 4 = .ok (.aload_n 0, 1) := by decide +kernel
theorem dd_X8_bindsNow_5 : decode cX8_bindsNow 5 = .ok (.iload_n 1, 1) := by decide +kernel
theorem dd_X8_bindsNow_6 : decode cX8_bindsNow 6 = .ok (.iload_n 2, 1) := by decide +kernel
theorem dd_X8_bindsNow_7 : decode cX8_bindsNow 7 = .ok (.iconst 0, 1) := by decide +kernel
theorem dd_X8_bindsNow_8 : decode cX8_bindsNow 8 = .ok (.invokevirtual 113, 3) := by decide +kernel
theorem dd_X8_bindsNow_11 : decode cX8_bindsNow 11 = .ok (.invokevirtual 119, 3) := by decide +kernel
theorem dd_X8_bindsNow_14 : decode cX8_bindsNow 14 = .ok (.ireturn, 1) := by decide +kernel
def tb_X8_bindsNow (kd : Nat → Nat) (K : zK) : zTab := [(0, zt_aload 0 1), (1, zt_iload 1 2), (2, zt_iload 2 3), (3, zt_iload 3 4), (4, zt_aload 0 5), (5, zt_iload 1 6), (6, zt_iload 2 7), (7, zt_const (zI 0) 8), (8, zt_call kd sp_X8_hands 4 11), (11, zt_call kd sp_X8_bindsAs 5 14), (14, zt_zret K)]
set_option maxRecDepth 20000 in
theorem tk_X8_bindsNow (d : Nat) (h_X8_hands : zMS 2 yX8_hands cX8_hands 4 (some .int) sp_X8_hands) (h_X8_bindsAs : zMS 4 yX8_bindsAs cX8_bindsAs 9 (some .boolean) sp_X8_bindsAs) : zTrue RX8 cX8_bindsNow 4 (some .boolean) (d + 5) (fun kd K => tb_X8_bindsNow kd K) := by
  intro p l e R s m args below meth c D cy A ad bl Qm K C0 hr hlocks hQ
  obtain ⟨hx, hb, hml, hown, hts, hK, hD, hA0, hN, hE, ⟨hR1, hR2⟩, hc1, hc2⟩ := id C0
  unfold tb_X8_bindsNow
  refine List.forall_mem_cons.mpr ⟨ok_aload_n hx hb rfl dd_X8_bindsNow_0, ?_⟩
  refine List.forall_mem_cons.mpr ⟨ok_iload_n hx hb rfl dd_X8_bindsNow_1, ?_⟩
  refine List.forall_mem_cons.mpr ⟨ok_iload_n hx hb rfl dd_X8_bindsNow_2, ?_⟩
  refine List.forall_mem_cons.mpr ⟨ok_iload_n hx hb rfl dd_X8_bindsNow_3, ?_⟩
  refine List.forall_mem_cons.mpr ⟨ok_aload_n hx hb rfl dd_X8_bindsNow_4, ?_⟩
  refine List.forall_mem_cons.mpr ⟨ok_iload_n hx hb rfl dd_X8_bindsNow_5, ?_⟩
  refine List.forall_mem_cons.mpr ⟨ok_iload_n hx hb rfl dd_X8_bindsNow_6, ?_⟩
  refine List.forall_mem_cons.mpr ⟨ok_iconst hx hb dd_X8_bindsNow_7 (by decide), ?_⟩
  refine List.forall_mem_cons.mpr ⟨ok_callV (n := 3) zc_X8 rv_X8_hands C0 (h_X8_hands (d + 4) (by omega)) (by decide) wd_1008 wd_1005 wd_1007 wd_69 wd_107 ⟨rfl, by decide +kernel, by decide +kernel, by decide +kernel⟩ dd_X8_bindsNow_8, ?_⟩
  refine List.forall_mem_cons.mpr ⟨ok_callV (n := 4) zc_X8 rv_X8_bindsAs C0 (h_X8_bindsAs (d + 4) (by omega)) (by decide) wd_1012 wd_1009 wd_1011 wd_70 wd_107 ⟨rfl, by decide +kernel, by decide +kernel, by decide +kernel⟩ dd_X8_bindsNow_11, ?_⟩
  refine List.forall_mem_cons.mpr ⟨ok_zret hx hb hr hlocks hQ dd_X8_bindsNow_14, ?_⟩
  exact fun _ h => absurd h List.not_mem_nil
set_option maxRecDepth 100000 in
theorem vc_X8_bindsNow_0 {kd : Nat → Nat} {K : zK} {X : zX} (hX : ∀ (n pc : Nat) (ls : zLS) (st : List zV) (M : zM), zrun (tb_X8_bindsNow kd K) [] n X pc ls st M → X pc ls st M) {c : Int32} {i : Int32} {y : Int32} {M : zM} (hk0 : kd 9 = 8) (h : ∃ a1 : Sk, (RpF (M.1 9 5) a1) ∧ ∃ l1 : Ly, (sk_at a1 c.toInt i.toInt = some l1) ∧ (0 ≤ (0 : Int32).toInt ∧ (0 : Int32).toInt < 5) ∧ ∀ v1 : Int32, (v1.toInt = ly_f l1 (0 : Int32).toInt) → ∃ a2 : Sk, (RpF (M.1 9 5) a2) ∧ ∃ l2 : Ly, (sk_at a2 c.toInt i.toInt = some l2) ∧ (0 ≤ y.toInt ∧ y.toInt < 1000000) ∧ ∀ v2 : Int32, (v2 = zp (bnd v1.toInt l2 (sk_at a2 c.toInt (i.toInt + 1)) y.toInt = true)) → (v2 = 0 ∨ v2 = 1) ∧ K (some (zI (v2))) M) : X 0 [some (zR 9 0), some (zI (c)), some (zI (i)), some (zI (y))] [] M := hX 12 0 _ [] M (show (kd 9 = 8) ∧ ∃ a1 : Sk, (RpF (M.1 9 5) a1) ∧ ∃ l1 : Ly, (sk_at a1 c.toInt i.toInt = some l1) ∧ (0 ≤ (0 : Int32).toInt ∧ (0 : Int32).toInt < 5) ∧ ∀ v1 : Int32, (v1.toInt = ly_f l1 (0 : Int32).toInt) → (kd 9 = 8) ∧ ∃ a2 : Sk, (RpF (M.1 9 5) a2) ∧ ∃ l2 : Ly, (sk_at a2 c.toInt i.toInt = some l2) ∧ (0 ≤ y.toInt ∧ y.toInt < 1000000) ∧ ∀ v2 : Int32, (v2 = zp (bnd v1.toInt l2 (sk_at a2 c.toInt (i.toInt + 1)) y.toInt = true)) → (v2 = 0 ∨ v2 = 1) ∧ K (some (zI (v2))) M from ⟨hk0, h.elim (fun a1 h => ⟨a1, ⟨h.1, have h := h.2; h.elim (fun l1 h => ⟨l1, ⟨h.1, have h := h.2; ⟨h.1, have h := h.2; fun v1 => have h := h v1; fun q => have h := h q; ⟨hk0, h.elim (fun a2 h => ⟨a2, ⟨h.1, have h := h.2; h.elim (fun l2 h => ⟨l2, ⟨h.1, have h := h.2; ⟨h.1, have h := h.2; fun v2 => have h := h v2; fun q => have h := h q; ⟨h.1, have h := h.2; h⟩⟩⟩⟩)⟩⟩)⟩⟩⟩⟩)⟩⟩)⟩)
