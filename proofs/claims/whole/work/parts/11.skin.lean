def sp_X7_isCell : zSpec := fun kd as M K => match as with
  | [.inl c] => ∀ v : Int32, (v = zp (0 ≤ c.toInt ∧ c.toInt < 6)) → K (some (.inl v)) M
  | _ => False
theorem dd_X7_isCell_0 : decode cX7_isCell 0 = .ok (.iload_n 0, 1) := by decide +kernel
theorem dd_X7_isCell_1 : decode cX7_isCell 1 = .ok (.ifCond .lt 13, 3) := by decide +kernel
theorem dd_X7_isCell_4 : decode cX7_isCell 4 = .ok (.iload_n 0, 1) := by decide +kernel
theorem dd_X7_isCell_5 : decode cX7_isCell 5 = .ok (.bipush 6, 2) := by decide +kernel
theorem dd_X7_isCell_7 : decode cX7_isCell 7 = .ok (.if_icmp .ge 7, 3) := by decide +kernel
theorem dd_X7_isCell_10 : decode cX7_isCell 10 = .ok (.iconst 1, 1) := by decide +kernel
theorem dd_X7_isCell_11 : decode cX7_isCell 11 = .ok (.goto 4, 3) := by decide +kernel
theorem dd_X7_isCell_14 : decode cX7_isCell 14 = .ok (.iconst 0, 1) := by decide +kernel
theorem dd_X7_isCell_15 : decode cX7_isCell 15 = .ok (.ireturn, 1) := by decide +kernel
def tb_X7_isCell (kd : Nat → Nat) (K : zK) : zTab := [(0, zt_iload 0 1), (1, zt_if (fun x => x < 0) (fun x => ¬ x < 0) 14 4), (4, zt_iload 0 5), (5, zt_const (zI 6) 7), (7, zt_icmp (fun x y => y ≤ x) (fun x y => ¬ y ≤ x) 14 10), (10, zt_const (zI 1) 11), (11, zt_goto 15), (14, zt_const (zI 0) 15), (15, zt_zret K)]
set_option maxRecDepth 20000 in
theorem tk_X7_isCell (d : Nat)  : zTrue RX7 cX7_isCell 1 (some .boolean) (d + 1) (fun kd K => tb_X7_isCell kd K) := by
  intro p l e R s m args below meth c D cy A ad bl Qm K C0 hr hlocks hQ
  obtain ⟨hx, hb, hml, hown, hts, hK, hD, hA0, hN, hE, ⟨hR1, hR2⟩, hc1, hc2⟩ := id C0
  unfold tb_X7_isCell
  refine List.forall_mem_cons.mpr ⟨ok_iload_n hx hb rfl dd_X7_isCell_0, ?_⟩
  refine List.forall_mem_cons.mpr ⟨ok_if_lt hx hb dd_X7_isCell_1 (by decide), ?_⟩
  refine List.forall_mem_cons.mpr ⟨ok_iload_n hx hb rfl dd_X7_isCell_4, ?_⟩
  refine List.forall_mem_cons.mpr ⟨ok_bipush hx hb dd_X7_isCell_5 (by decide), ?_⟩
  refine List.forall_mem_cons.mpr ⟨ok_icmp_ge hx hb dd_X7_isCell_7 (by decide), ?_⟩
  refine List.forall_mem_cons.mpr ⟨ok_iconst hx hb dd_X7_isCell_10 (by decide), ?_⟩
  refine List.forall_mem_cons.mpr ⟨ok_goto hx hb dd_X7_isCell_11 (by decide), ?_⟩
  refine List.forall_mem_cons.mpr ⟨ok_iconst hx hb dd_X7_isCell_14 (by decide), ?_⟩
  refine List.forall_mem_cons.mpr ⟨ok_zret hx hb hr hlocks hQ dd_X7_isCell_15, ?_⟩
  exact fun _ h => absurd h List.not_mem_nil
set_option maxRecDepth 100000 in
theorem vc_X7_isCell_0 {kd : Nat → Nat} {K : zK} {X : zX} (hX : ∀ (n pc : Nat) (ls : zLS) (st : List zV) (M : zM), zrun (tb_X7_isCell kd K) [] n X pc ls st M → X pc ls st M) {c : Int32} {M : zM}  (h : ((c < 0) → K (some (zI ((0 : Int32)))) M) ∧ ((¬ c < 0) → (((6 : Int32) ≤ c) → K (some (zI ((0 : Int32)))) M) ∧ ((¬ (6 : Int32) ≤ c) → K (some (zI ((1 : Int32)))) M))) : X 0 [some (zI (c))] [] M := hX 9 0 _ [] M (show ((c < 0) → ((0 : Int32) = 0 ∨ (0 : Int32) = 1) ∧ K (some (zI ((0 : Int32)))) M) ∧ ((¬ c < 0) → (((6 : Int32) ≤ c) → ((0 : Int32) = 0 ∨ (0 : Int32) = 1) ∧ K (some (zI ((0 : Int32)))) M) ∧ ((¬ (6 : Int32) ≤ c) → ((1 : Int32) = 0 ∨ (1 : Int32) = 1) ∧ K (some (zI ((1 : Int32)))) M)) from ⟨fun q => have h := h.1 q; ⟨(Or.inl rfl), h⟩, fun q => have h := h.2 q; ⟨fun q => have h := h.1 q; ⟨(Or.inl rfl), h⟩, fun q => have h := h.2 q; ⟨(Or.inr rfl), h⟩⟩⟩)
def sp_X7_cellOf : zSpec := fun kd as M K => match as with
  | [.inl w] => ∀ v : Int32, (v = if w < 10 then w else w - 10) → K (some (.inl v)) M
  | _ => False
theorem dd_X7_cellOf_0 : decode cX7_cellOf 0 = .ok (.iload_n 0, 1) := by decide +kernel
theorem dd_X7_cellOf_1 : decode cX7_cellOf 1 = .ok (.bipush 10, 2) := by decide +kernel
theorem dd_X7_cellOf_3 : decode cX7_cellOf 3 = .ok (.if_icmp .ge 7, 3) := by decide +kernel
theorem dd_X7_cellOf_6 : decode cX7_cellOf 6 = .ok (.iload_n 0, 1) := by decide +kernel
theorem dd_X7_cellOf_7 : decode cX7_cellOf 7 = .ok (.goto 7, 3) := by decide +kernel
theorem dd_X7_cellOf_10 : decode cX7_cellOf 10 = .ok (.iload_n 0, 1) := by decide +kernel
theorem dd_X7_cellOf_11 : decode cX7_cellOf 11 = .ok (.bipush 10, 2) := by decide +kernel
theorem dd_X7_cellOf_13 : decode cX7_cellOf 13 = .ok (.isub, 1) := by decide +kernel
theorem dd_X7_cellOf_14 : decode cX7_cellOf 14 = .ok (.ireturn, 1) := by decide +kernel
def tb_X7_cellOf (kd : Nat → Nat) (K : zK) : zTab := [(0, zt_iload 0 1), (1, zt_const (zI 10) 3), (3, zt_icmp (fun x y => y ≤ x) (fun x y => ¬ y ≤ x) 10 6), (6, zt_iload 0 7), (7, zt_goto 14), (10, zt_iload 0 11), (11, zt_const (zI 10) 13), (13, zt_bin (fun x y => x - y) 14), (14, zt_iret K)]
set_option maxRecDepth 20000 in
theorem tk_X7_cellOf (d : Nat)  : zTrue RX7 cX7_cellOf 1 (some .int) (d + 1) (fun kd K => tb_X7_cellOf kd K) := by
  intro p l e R s m args below meth c D cy A ad bl Qm K C0 hr hlocks hQ
  obtain ⟨hx, hb, hml, hown, hts, hK, hD, hA0, hN, hE, ⟨hR1, hR2⟩, hc1, hc2⟩ := id C0
  unfold tb_X7_cellOf
  refine List.forall_mem_cons.mpr ⟨ok_iload_n hx hb rfl dd_X7_cellOf_0, ?_⟩
  refine List.forall_mem_cons.mpr ⟨ok_bipush hx hb dd_X7_cellOf_1 (by decide), ?_⟩
  refine List.forall_mem_cons.mpr ⟨ok_icmp_ge hx hb dd_X7_cellOf_3 (by decide), ?_⟩
  refine List.forall_mem_cons.mpr ⟨ok_iload_n hx hb rfl dd_X7_cellOf_6, ?_⟩
  refine List.forall_mem_cons.mpr ⟨ok_goto hx hb dd_X7_cellOf_7 (by decide), ?_⟩
  refine List.forall_mem_cons.mpr ⟨ok_iload_n hx hb rfl dd_X7_cellOf_10, ?_⟩
  refine List.forall_mem_cons.mpr ⟨ok_bipush hx hb dd_X7_cellOf_11 (by decide), ?_⟩
  refine List.forall_mem_cons.mpr ⟨ok_isub hx hb dd_X7_cellOf_13, ?_⟩
  refine List.forall_mem_cons.mpr ⟨ok_iret hx hb hr hlocks hQ dd_X7_cellOf_14, ?_⟩
  exact fun _ h => absurd h List.not_mem_nil
set_option maxRecDepth 100000 in
theorem vc_X7_cellOf_0 {kd : Nat → Nat} {K : zK} {X : zX} (hX : ∀ (n pc : Nat) (ls : zLS) (st : List zV) (M : zM), zrun (tb_X7_cellOf kd K) [] n X pc ls st M → X pc ls st M) {w : Int32} {M : zM}  (h : (((10 : Int32) ≤ w) → K (some (zI (w - (10 : Int32)))) M) ∧ ((¬ (10 : Int32) ≤ w) → K (some (zI (w))) M)) : X 0 [some (zI (w))] [] M := hX 8 0 _ [] M (show (((10 : Int32) ≤ w) → K (some (zI (w - (10 : Int32)))) M) ∧ ((¬ (10 : Int32) ≤ w) → K (some (zI (w))) M) from ⟨fun q => have h := h.1 q; h, fun q => have h := h.2 q; h⟩)
def sp_X3_slot : zSpec := fun kd as M K => match as with
  | [.inr (.inr (.inl (t, 0))), .inl c, .inl i] => (kd t = 3) ∧ ∃ a : Sk, (RpS (M.1 t) a) ∧ ∀ v : Int32, (v.toInt = if (sk_at a c.toInt i.toInt).isSome then 4 * c.toInt + i.toInt else -1) → K (some (.inl v)) M
  | _ => False
theorem rv_X3_slot : zrv sp_X3_slot 3 2 := by
  intro kd as M K h
  unfold sp_X3_slot at h
  split at h
  · exact ⟨_, _, rfl, h.1⟩
  · exact h.elim
theorem dd_X3_slot_0 : decode cX3_slot 0 = .ok (.iload_n 1, 1) := by decide +kernel
theorem dd_X3_slot_1 : decode cX3_slot 1 = .ok (.ifCond .lt 28, 3) := by decide +kernel
theorem dd_X3_slot_4 : decode cX3_slot 4 = .ok (.iload_n 1, 1) := by decide +kernel
theorem dd_X3_slot_5 : decode cX3_slot 5 = .ok (.bipush 6, 2) := by decide +kernel
theorem dd_X3_slot_7 : decode cX3_slot 7 = .ok (.if_icmp .ge 22, 3) := by decide +kernel
theorem dd_X3_slot_10 : decode cX3_slot 10 = .ok (.iload_n 2, 1) := by decide +kernel
theorem dd_X3_slot_11 : decode cX3_slot 11 = .ok (.ifCond .lt 18, 3) := by decide +kernel
theorem dd_X3_slot_14 : decode cX3_slot 14 = .ok (.iload_n 2, 1) := by decide +kernel
theorem dd_X3_slot_15 : decode cX3_slot 15 = .ok (.iconst 4, 1) := by decide +kernel
theorem dd_X3_slot_16 : decode cX3_slot 16 = .ok (.if_icmp .ge 13, 3) := by decide +kernel
theorem dd_X3_slot_19 : decode cX3_slot 19 = .ok (.iload_n 2, 1) := by decide +kernel
theorem dd_X3_slot_20 : decode cX3_slot 20 = .ok (.aload_n 0, 1) := by decide +kernel
theorem dd_X3_slot_21 : decode cX3_slot 21 = .ok (.getfield 9, 3) := by decide +kernel
theorem dd_X3_slot_24 : decode cX3_slot 24 = .ok (.iload_n 1, 1) := by decide +kernel
theorem dd_X3_slot_25 : decode cX3_slot 25 = .ok (.iaload, 1) := by decide +kernel
theorem dd_X3_slot_26 : decode cX3_slot 26 = .ok (.if_icmp .lt 5, 3) := by decide +kernel
theorem dd_X3_slot_29 : decode cX3_slot 29 = .ok (.iconst (-1), 1) := by decide +kernel
theorem dd_X3_slot_30 : decode cX3_slot 30 = .ok (.ireturn, 1) := by decide +kernel
theorem dd_X3_slot_31 : decode cX3_slot 31 = .ok (.iload_n 1, 1) := by decide +kernel
theorem dd_X3_slot_32 : decode cX3_slot 32 = .ok (.iconst 4, 1) := by decide +kernel
theorem dd_X3_slot_33 : decode cX3_slot 33 = .ok (.imul, 1) := by decide +kernel
theorem dd_X3_slot_34 : decode cX3_slot 34 = .ok (.iload_n 2, 1) := by decide +kernel
theorem dd_X3_slot_35 : decode cX3_slot 35 = .ok (.iadd, 1) := by decide +kernel
theorem dd_X3_slot_36 : decode cX3_slot 36 = .ok (.ireturn, 1) := by decide +kernel
def tb_X3_slot (kd : Nat → Nat) (K : zK) : zTab := [(0, zt_iload 1 1), (1, zt_if (fun x => x < 0) (fun x => ¬ x < 0) 29 4), (4, zt_iload 1 5), (5, zt_const (zI 6) 7), (7, zt_icmp (fun x y => y ≤ x) (fun x y => ¬ y ≤ x) 29 10), (10, zt_iload 2 11), (11, zt_if (fun x => x < 0) (fun x => ¬ x < 0) 29 14), (14, zt_iload 2 15), (15, zt_const (zI 4) 16), (16, zt_icmp (fun x y => y ≤ x) (fun x y => ¬ y ≤ x) 29 19), (19, zt_iload 2 20), (20, zt_aload 0 21), (21, zt_getR kd 3 0 1 24), (24, zt_iload 1 25), (25, zt_ald kd 0 26), (26, zt_icmp (fun x y => x < y) (fun x y => ¬ x < y) 31 29), (29, zt_const (zI (-1)) 30), (30, zt_iret K), (31, zt_iload 1 32), (32, zt_const (zI 4) 33), (33, zt_bin (fun x y => x * y) 34), (34, zt_iload 2 35), (35, zt_bin (fun x y => x + y) 36), (36, zt_iret K)]
set_option maxRecDepth 20000 in
theorem tk_X3_slot (d : Nat)  : zTrue RX3 cX3_slot 3 (some .int) (d + 1) (fun kd K => tb_X3_slot kd K) := by
  intro p l e R s m args below meth c D cy A ad bl Qm K C0 hr hlocks hQ
  obtain ⟨hx, hb, hml, hown, hts, hK, hD, hA0, hN, hE, ⟨hR1, hR2⟩, hc1, hc2⟩ := id C0
  unfold tb_X3_slot
  refine List.forall_mem_cons.mpr ⟨ok_iload_n hx hb rfl dd_X3_slot_0, ?_⟩
  refine List.forall_mem_cons.mpr ⟨ok_if_lt hx hb dd_X3_slot_1 (by decide), ?_⟩
  refine List.forall_mem_cons.mpr ⟨ok_iload_n hx hb rfl dd_X3_slot_4, ?_⟩
  refine List.forall_mem_cons.mpr ⟨ok_bipush hx hb dd_X3_slot_5 (by decide), ?_⟩
  refine List.forall_mem_cons.mpr ⟨ok_icmp_ge hx hb dd_X3_slot_7 (by decide), ?_⟩
  refine List.forall_mem_cons.mpr ⟨ok_iload_n hx hb rfl dd_X3_slot_10, ?_⟩
  refine List.forall_mem_cons.mpr ⟨ok_if_lt hx hb dd_X3_slot_11 (by decide), ?_⟩
  refine List.forall_mem_cons.mpr ⟨ok_iload_n hx hb rfl dd_X3_slot_14, ?_⟩
  refine List.forall_mem_cons.mpr ⟨ok_iconst hx hb dd_X3_slot_15 (by decide), ?_⟩
  refine List.forall_mem_cons.mpr ⟨ok_icmp_ge hx hb dd_X3_slot_16 (by decide), ?_⟩
  refine List.forall_mem_cons.mpr ⟨ok_iload_n hx hb rfl dd_X3_slot_19, ?_⟩
  refine List.forall_mem_cons.mpr ⟨ok_aload_n hx hb rfl dd_X3_slot_20, ?_⟩
  refine List.forall_mem_cons.mpr ⟨ok_getR (j := 0) hx hb hts zi_X3 hown hK zc_X3 (by decide) rfl (fun t fl h => by cases h; rfl) (hts _ wd_136) dd_X3_slot_21, ?_⟩
  refine List.forall_mem_cons.mpr ⟨ok_iload_n hx hb rfl dd_X3_slot_24, ?_⟩
  refine List.forall_mem_cons.mpr ⟨ok_ald (ty := 0) rfl hx hb hK (Or.inl ⟨rfl, rfl, dd_X3_slot_25⟩), ?_⟩
  refine List.forall_mem_cons.mpr ⟨ok_icmp_lt hx hb dd_X3_slot_26 (by decide), ?_⟩
  refine List.forall_mem_cons.mpr ⟨ok_iconst hx hb dd_X3_slot_29 (by decide), ?_⟩
  refine List.forall_mem_cons.mpr ⟨ok_iret hx hb hr hlocks hQ dd_X3_slot_30, ?_⟩
  refine List.forall_mem_cons.mpr ⟨ok_iload_n hx hb rfl dd_X3_slot_31, ?_⟩
  refine List.forall_mem_cons.mpr ⟨ok_iconst hx hb dd_X3_slot_32 (by decide), ?_⟩
  refine List.forall_mem_cons.mpr ⟨ok_imul hx hb dd_X3_slot_33, ?_⟩
  refine List.forall_mem_cons.mpr ⟨ok_iload_n hx hb rfl dd_X3_slot_34, ?_⟩
  refine List.forall_mem_cons.mpr ⟨ok_iadd hx hb dd_X3_slot_35, ?_⟩
  refine List.forall_mem_cons.mpr ⟨ok_iret hx hb hr hlocks hQ dd_X3_slot_36, ?_⟩
  exact fun _ h => absurd h List.not_mem_nil
set_option maxRecDepth 100000 in
theorem vc_X3_slot_0 {kd : Nat → Nat} {K : zK} {X : zX} (hX : ∀ (n pc : Nat) (ls : zLS) (st : List zV) (M : zM), zrun (tb_X3_slot kd K) [] n X pc ls st M → X pc ls st M) {t : Nat} {c : Int32} {i : Int32} {M : zM} (hk0 : kd t = 3) (h : ((c < 0) → K (some (zI ((-1 : Int32)))) M) ∧ ((¬ c < 0) → (((6 : Int32) ≤ c) → K (some (zI ((-1 : Int32)))) M) ∧ ((¬ (6 : Int32) ≤ c) → ((i < 0) → K (some (zI ((-1 : Int32)))) M) ∧ ((¬ i < 0) → (((4 : Int32) ≤ i) → K (some (zI ((-1 : Int32)))) M) ∧ ((¬ (4 : Int32) ≤ i) → (zin (kd t) 1 0 c) ∧ ((i < (M.1 t 1 (c).toNatClampNeg)) → K (some (zI ((c * (4 : Int32)) + i))) M) ∧ ((¬ i < (M.1 t 1 (c).toNatClampNeg)) → K (some (zI ((-1 : Int32)))) M)))))) : X 0 [some (zR t 0), some (zI (c)), some (zI (i))] [] M := hX 23 0 _ [] M (show ((c < 0) → K (some (zI ((-1 : Int32)))) M) ∧ ((¬ c < 0) → (((6 : Int32) ≤ c) → K (some (zI ((-1 : Int32)))) M) ∧ ((¬ (6 : Int32) ≤ c) → ((i < 0) → K (some (zI ((-1 : Int32)))) M) ∧ ((¬ i < 0) → (((4 : Int32) ≤ i) → K (some (zI ((-1 : Int32)))) M) ∧ ((¬ (4 : Int32) ≤ i) → (kd t = 3) ∧ (zin (kd t) 1 0 c) ∧ ((i < (M.1 t 1 (c).toNatClampNeg)) → K (some (zI ((c * (4 : Int32)) + i))) M) ∧ ((¬ i < (M.1 t 1 (c).toNatClampNeg)) → K (some (zI ((-1 : Int32)))) M))))) from ⟨fun q => have h := h.1 q; h, fun q => have h := h.2 q; ⟨fun q => have h := h.1 q; h, fun q => have h := h.2 q; ⟨fun q => have h := h.1 q; h, fun q => have h := h.2 q; ⟨fun q => have h := h.1 q; h, fun q => have h := h.2 q; ⟨hk0, ⟨h.1, have h := h.2; ⟨fun q => have h := h.1 q; h, fun q => have h := h.2 q; h⟩⟩⟩⟩⟩⟩⟩)
def sp_X3_has : zSpec := fun kd as M K => match as with
  | [.inr (.inr (.inl (t, 0))), .inl c, .inl i] => (kd t = 3) ∧ ∃ a : Sk, (RpS (M.1 t) a) ∧ ∀ v : Int32, (v = zp ((sk_at a c.toInt i.toInt).isSome = true)) → K (some (.inl v)) M
  | _ => False
theorem rv_X3_has : zrv sp_X3_has 3 2 := by
  intro kd as M K h
  unfold sp_X3_has at h
  split at h
  · exact ⟨_, _, rfl, h.1⟩
  · exact h.elim
theorem dd_X3_has_0 : decode cX3_has 0 = .ok (.aload_n 0, 1) := by decide +kernel
theorem dd_X3_has_1 : decode cX3_has 1 = .ok (.iload_n 1, 1) := by decide +kernel
theorem dd_X3_has_2 : decode cX3_has 2 = .ok (.iload_n 2, 1) := by decide +kernel
theorem dd_X3_has_3 : decode cX3_has 3 = .ok (.invokevirtual 40, 3) := by decide +kernel
theorem dd_X3_has_6 : decode cX3_has 6 = .ok (.iconst (-1), 1) := by decide +kernel
theorem dd_X3_has_7 : decode cX3_has 7 = .ok (.if_icmp .eq 7, 3) := by decide +kernel
theorem dd_X3_has_10 : decode cX3_has 10 = .ok (.iconst 1, 1) := by decide +kernel
theorem dd_X3_has_11 : decode cX3_has 11 = .ok (.goto 4, 3) := by decide +kernel
theorem dd_X3_has_14 : decode cX3_has 14 = .ok (.iconst 0, 1) := by decide +kernel
theorem dd_X3_has_15 : decode cX3_has 15 = .ok (.ireturn, 1) := by decide +kernel
def tb_X3_has (kd : Nat → Nat) (K : zK) : zTab := [(0, zt_aload 0 1), (1, zt_iload 1 2), (2, zt_iload 2 3), (3, zt_call kd sp_X3_slot 3 6), (6, zt_const (zI (-1)) 7), (7, zt_icmp (fun x y => x = y) (fun x y => ¬ x = y) 14 10), (10, zt_const (zI 1) 11), (11, zt_goto 15), (14, zt_const (zI 0) 15), (15, zt_zret K)]
set_option maxRecDepth 20000 in
theorem tk_X3_has (d : Nat) (h_X3_slot : zMS 1 yX3_slot cX3_slot 3 (some .int) sp_X3_slot) : zTrue RX3 cX3_has 3 (some .boolean) (d + 2) (fun kd K => tb_X3_has kd K) := by
  intro p l e R s m args below meth c D cy A ad bl Qm K C0 hr hlocks hQ
  obtain ⟨hx, hb, hml, hown, hts, hK, hD, hA0, hN, hE, ⟨hR1, hR2⟩, hc1, hc2⟩ := id C0
  unfold tb_X3_has
  refine List.forall_mem_cons.mpr ⟨ok_aload_n hx hb rfl dd_X3_has_0, ?_⟩
  refine List.forall_mem_cons.mpr ⟨ok_iload_n hx hb rfl dd_X3_has_1, ?_⟩
  refine List.forall_mem_cons.mpr ⟨ok_iload_n hx hb rfl dd_X3_has_2, ?_⟩
  refine List.forall_mem_cons.mpr ⟨ok_callV (n := 2) zc_X3 rv_X3_slot C0 (h_X3_slot (d + 1) (by omega)) (by decide) wd_341 wd_338 wd_340 wd_6 wd_102 ⟨rfl, by decide +kernel, by decide +kernel, by decide +kernel⟩ dd_X3_has_3, ?_⟩
  refine List.forall_mem_cons.mpr ⟨ok_iconst hx hb dd_X3_has_6 (by decide), ?_⟩
  refine List.forall_mem_cons.mpr ⟨ok_icmp_eq hx hb dd_X3_has_7 (by decide), ?_⟩
  refine List.forall_mem_cons.mpr ⟨ok_iconst hx hb dd_X3_has_10 (by decide), ?_⟩
  refine List.forall_mem_cons.mpr ⟨ok_goto hx hb dd_X3_has_11 (by decide), ?_⟩
  refine List.forall_mem_cons.mpr ⟨ok_iconst hx hb dd_X3_has_14 (by decide), ?_⟩
  refine List.forall_mem_cons.mpr ⟨ok_zret hx hb hr hlocks hQ dd_X3_has_15, ?_⟩
  exact fun _ h => absurd h List.not_mem_nil
set_option maxRecDepth 100000 in
theorem vc_X3_has_0 {kd : Nat → Nat} {K : zK} {X : zX} (hX : ∀ (n pc : Nat) (ls : zLS) (st : List zV) (M : zM), zrun (tb_X3_has kd K) [] n X pc ls st M → X pc ls st M) {t : Nat} {c : Int32} {i : Int32} {M : zM} (hk0 : kd t = 3) (h : ∃ a1 : Sk, (RpS (M.1 t) a1) ∧ ∀ v1 : Int32, (v1.toInt = if (sk_at a1 c.toInt i.toInt).isSome then 4 * c.toInt + i.toInt else -1) → ((v1 = (-1 : Int32)) → K (some (zI ((0 : Int32)))) M) ∧ ((¬ v1 = (-1 : Int32)) → K (some (zI ((1 : Int32)))) M)) : X 0 [some (zR t 0), some (zI (c)), some (zI (i))] [] M := hX 10 0 _ [] M (show (kd t = 3) ∧ ∃ a1 : Sk, (RpS (M.1 t) a1) ∧ ∀ v1 : Int32, (v1.toInt = if (sk_at a1 c.toInt i.toInt).isSome then 4 * c.toInt + i.toInt else -1) → ((v1 = (-1 : Int32)) → ((0 : Int32) = 0 ∨ (0 : Int32) = 1) ∧ K (some (zI ((0 : Int32)))) M) ∧ ((¬ v1 = (-1 : Int32)) → ((1 : Int32) = 0 ∨ (1 : Int32) = 1) ∧ K (some (zI ((1 : Int32)))) M) from ⟨hk0, h.elim (fun a1 h => ⟨a1, ⟨h.1, have h := h.2; fun v1 => have h := h v1; fun q => have h := h q; ⟨fun q => have h := h.1 q; ⟨(Or.inl rfl), h⟩, fun q => have h := h.2 q; ⟨(Or.inr rfl), h⟩⟩⟩⟩)⟩)
def sp_X3_topmost : zSpec := fun kd as M K => match as with
  | [.inr (.inr (.inl (t, 0))), .inl c] => (kd t = 3) ∧ ∃ a : Sk, (RpS (M.1 t) a) ∧ ∀ v : Int32, (v.toInt = if (sk_top a c.toInt).isSome then 4 * c.toInt + sk_len a c.toInt - 1 else -1) → K (some (.inl v)) M
  | _ => False
theorem rv_X3_topmost : zrv sp_X3_topmost 3 1 := by
  intro kd as M K h
  unfold sp_X3_topmost at h
  split at h
  · exact ⟨_, _, rfl, h.1⟩
  · exact h.elim
theorem dd_X3_topmost_0 : decode cX3_topmost 0 = .ok (.iload_n 1, 1) := by decide +kernel
theorem dd_X3_topmost_1 : decode cX3_topmost 1 = .ok (.invokestatic 44, 3) := by decide +kernel
theorem dd_X3_topmost_4 : decode cX3_topmost 4 = .ok (.ifCond .eq 19, 3) := by decide +kernel
theorem dd_X3_topmost_7 : decode cX3_topmost 7 = .ok (.aload_n 0, 1) := by decide +kernel
theorem dd_X3_topmost_8 : decode cX3_topmost 8 = .ok (.iload_n 1, 1) := by decide +kernel
theorem dd_X3_topmost_9 : decode cX3_topmost 9 = .ok (.aload_n 0, 1) := by decide +kernel
theorem dd_X3_topmost_10 : decode cX3_topmost 10 = .ok (.getfield 9, 3) := by decide +kernel
theorem dd_X3_topmost_13 : decode cX3_topmost 13 = .ok (.iload_n 1, 1) := by decide +kernel
theorem dd_X3_topmost_14 : decode cX3_topmost 14 = .ok (.iaload, 1) := by decide +kernel
theorem dd_X3_topmost_15 : decode cX3_topmost 15 = .ok (.iconst 1, 1) := by decide +kernel
theorem dd_X3_topmost_16 : decode cX3_topmost 16 = .ok (.isub, 1) := by decide +kernel
theorem dd_X3_topmost_17 : decode cX3_topmost 17 = .ok (.invokevirtual 40, 3) := by decide +kernel
theorem dd_X3_topmost_20 : decode cX3_topmost 20 = .ok (.goto 4, 3) := by decide +kernel
theorem dd_X3_topmost_23 : decode cX3_topmost 23 = .ok (.iconst (-1), 1) := by decide +kernel
theorem dd_X3_topmost_24 : decode cX3_topmost 24 = .ok (.ireturn, 1) := by decide +kernel
def tb_X3_topmost (kd : Nat → Nat) (K : zK) : zTab := [(0, zt_iload 1 1), (1, zt_call kd sp_X7_isCell 1 4), (4, zt_if (fun x => x = 0) (fun x => ¬ x = 0) 23 7), (7, zt_aload 0 8), (8, zt_iload 1 9), (9, zt_aload 0 10), (10, zt_getR kd 3 0 1 13), (13, zt_iload 1 14), (14, zt_ald kd 0 15), (15, zt_const (zI 1) 16), (16, zt_bin (fun x y => x - y) 17), (17, zt_call kd sp_X3_slot 3 20), (20, zt_goto 24), (23, zt_const (zI (-1)) 24), (24, zt_iret K)]
set_option maxRecDepth 20000 in
theorem tk_X3_topmost (d : Nat) (h_X7_isCell : zMS 1 yX7_isCell cX7_isCell 1 (some .boolean) sp_X7_isCell) (h_X3_slot : zMS 1 yX3_slot cX3_slot 3 (some .int) sp_X3_slot) : zTrue RX3 cX3_topmost 2 (some .int) (d + 2) (fun kd K => tb_X3_topmost kd K) := by
  intro p l e R s m args below meth c D cy A ad bl Qm K C0 hr hlocks hQ
  obtain ⟨hx, hb, hml, hown, hts, hK, hD, hA0, hN, hE, ⟨hR1, hR2⟩, hc1, hc2⟩ := id C0
  unfold tb_X3_topmost
  refine List.forall_mem_cons.mpr ⟨ok_iload_n hx hb rfl dd_X3_topmost_0, ?_⟩
  refine List.forall_mem_cons.mpr ⟨ok_callSN (n := 1) C0 (h_X7_isCell (d + 1) (by omega)) (by decide) wd_318 nd_337 wd_317 wd_100 ⟨by decide +kernel, by decide +kernel, by decide +kernel⟩ dd_X3_topmost_1, ?_⟩
  refine List.forall_mem_cons.mpr ⟨ok_if_eq hx hb dd_X3_topmost_4 (by decide), ?_⟩
  refine List.forall_mem_cons.mpr ⟨ok_aload_n hx hb rfl dd_X3_topmost_7, ?_⟩
  refine List.forall_mem_cons.mpr ⟨ok_iload_n hx hb rfl dd_X3_topmost_8, ?_⟩
  refine List.forall_mem_cons.mpr ⟨ok_aload_n hx hb rfl dd_X3_topmost_9, ?_⟩
  refine List.forall_mem_cons.mpr ⟨ok_getR (j := 0) hx hb hts zi_X3 hown hK zc_X3 (by decide) rfl (fun t fl h => by cases h; rfl) (hts _ wd_136) dd_X3_topmost_10, ?_⟩
  refine List.forall_mem_cons.mpr ⟨ok_iload_n hx hb rfl dd_X3_topmost_13, ?_⟩
  refine List.forall_mem_cons.mpr ⟨ok_ald (ty := 0) rfl hx hb hK (Or.inl ⟨rfl, rfl, dd_X3_topmost_14⟩), ?_⟩
  refine List.forall_mem_cons.mpr ⟨ok_iconst hx hb dd_X3_topmost_15 (by decide), ?_⟩
  refine List.forall_mem_cons.mpr ⟨ok_isub hx hb dd_X3_topmost_16, ?_⟩
  refine List.forall_mem_cons.mpr ⟨ok_callV (n := 2) zc_X3 rv_X3_slot C0 (h_X3_slot (d + 1) (by omega)) (by decide) wd_341 wd_338 wd_340 wd_6 wd_102 ⟨rfl, by decide +kernel, by decide +kernel, by decide +kernel⟩ dd_X3_topmost_17, ?_⟩
  refine List.forall_mem_cons.mpr ⟨ok_goto hx hb dd_X3_topmost_20 (by decide), ?_⟩
  refine List.forall_mem_cons.mpr ⟨ok_iconst hx hb dd_X3_topmost_23 (by decide), ?_⟩
  refine List.forall_mem_cons.mpr ⟨ok_iret hx hb hr hlocks hQ dd_X3_topmost_24, ?_⟩
  exact fun _ h => absurd h List.not_mem_nil
set_option maxRecDepth 100000 in
theorem vc_X3_topmost_0 {kd : Nat → Nat} {K : zK} {X : zX} (hX : ∀ (n pc : Nat) (ls : zLS) (st : List zV) (M : zM), zrun (tb_X3_topmost kd K) [] n X pc ls st M → X pc ls st M) {t : Nat} {c : Int32} {M : zM} (hk0 : kd t = 3) (h : ∀ v1 : Int32, (v1 = zp (0 ≤ c.toInt ∧ c.toInt < 6)) → ((v1 = 0) → K (some (zI ((-1 : Int32)))) M) ∧ ((¬ v1 = 0) → (zin (kd t) 1 0 c) ∧ ∃ a2 : Sk, (RpS (M.1 t) a2) ∧ ∀ v2 : Int32, (v2.toInt = if (sk_at a2 c.toInt ((M.1 t 1 (c).toNatClampNeg) - (1 : Int32)).toInt).isSome then 4 * c.toInt + ((M.1 t 1 (c).toNatClampNeg) - (1 : Int32)).toInt else -1) → K (some (zI (v2))) M)) : X 0 [some (zR t 0), some (zI (c))] [] M := hX 15 0 _ [] M (show ∀ v1 : Int32, (v1 = zp (0 ≤ c.toInt ∧ c.toInt < 6)) → ((v1 = 0) → K (some (zI ((-1 : Int32)))) M) ∧ ((¬ v1 = 0) → (kd t = 3) ∧ (zin (kd t) 1 0 c) ∧ (kd t = 3) ∧ ∃ a2 : Sk, (RpS (M.1 t) a2) ∧ ∀ v2 : Int32, (v2.toInt = if (sk_at a2 c.toInt ((M.1 t 1 (c).toNatClampNeg) - (1 : Int32)).toInt).isSome then 4 * c.toInt + ((M.1 t 1 (c).toNatClampNeg) - (1 : Int32)).toInt else -1) → K (some (zI (v2))) M) from fun v1 => have h := h v1; fun q => have h := h q; ⟨fun q => have h := h.1 q; h, fun q => have h := h.2 q; ⟨hk0, ⟨h.1, have h := h.2; ⟨hk0, h.elim (fun a2 h => ⟨a2, ⟨h.1, have h := h.2; fun v2 => have h := h v2; fun q => have h := h q; h⟩⟩)⟩⟩⟩⟩)
def sp_X3_canScrape : zSpec := fun kd as M K => match as with
  | [.inr (.inr (.inl (t, 0))), .inl c] => (kd t = 3) ∧ ∃ a : Sk, (RpS (M.1 t) a) ∧ ∀ v : Int32, (v = zp (sk_canR a c.toInt = true)) → K (some (.inl v)) M
  | _ => False
theorem rv_X3_canScrape : zrv sp_X3_canScrape 3 1 := by
  intro kd as M K h
  unfold sp_X3_canScrape at h
  split at h
  · exact ⟨_, _, rfl, h.1⟩
  · exact h.elim
theorem dd_X3_canScrape_0 : decode cX3_canScrape 0 = .ok (.aload_n 0, 1) := by decide +kernel
theorem dd_X3_canScrape_1 : decode cX3_canScrape 1 = .ok (.iload_n 1, 1) := by decide +kernel
theorem dd_X3_canScrape_2 : decode cX3_canScrape 2 = .ok (.invokevirtual 48, 3) := by decide +kernel
theorem dd_X3_canScrape_5 : decode cX3_canScrape 5 = .ok (.istore_n 2, 1) := by decide +kernel
theorem dd_X3_canScrape_6 : decode cX3_canScrape 6 = .ok (.iload_n 2, 1) := by decide +kernel
theorem dd_X3_canScrape_7 : decode cX3_canScrape 7 = .ok (.iconst (-1), 1) := by decide +kernel
theorem dd_X3_canScrape_8 : decode cX3_canScrape 8 = .ok (.if_icmp .eq 17, 3) := by decide +kernel
theorem dd_X3_canScrape_11 : decode cX3_canScrape 11 = .ok (.aload_n 0, 1) := by decide +kernel
theorem dd_X3_canScrape_12 : decode cX3_canScrape 12 = .ok (.getfield 27, 3) := by decide +kernel
theorem dd_X3_canScrape_15 : decode cX3_canScrape 15 = .ok (.iload_n 2, 1) := by decide +kernel
theorem dd_X3_canScrape_16 : decode cX3_canScrape 16 = .ok (.iaload, 1) := by decide +kernel
theorem dd_X3_canScrape_17 : decode cX3_canScrape 17 = .ok (.iconst (-1), 1) := by decide +kernel
theorem dd_X3_canScrape_18 : decode cX3_canScrape 18 = .ok (.if_icmp .ne 7, 3) := by decide +kernel
theorem dd_X3_canScrape_21 : decode cX3_canScrape 21 = .ok (.iconst 1, 1) := by decide +kernel
theorem dd_X3_canScrape_22 : decode cX3_canScrape 22 = .ok (.goto 4, 3) := by decide +kernel
theorem dd_X3_canScrape_25 : decode cX3_canScrape 25 = .ok (.iconst 0, 1) := by decide +kernel
theorem dd_X3_canScrape_26 : decode cX3_canScrape 26 = .ok (.ireturn, 1) := by decide +kernel
def tb_X3_canScrape (kd : Nat → Nat) (K : zK) : zTab := [(0, zt_aload 0 1), (1, zt_iload 1 2), (2, zt_call kd sp_X3_topmost 2 5), (5, zt_istore 2 6), (6, zt_iload 2 7), (7, zt_const (zI (-1)) 8), (8, zt_icmp (fun x y => x = y) (fun x y => ¬ x = y) 25 11), (11, zt_aload 0 12), (12, zt_getR kd 3 0 6 15), (15, zt_iload 2 16), (16, zt_ald kd 0 17), (17, zt_const (zI (-1)) 18), (18, zt_icmp (fun x y => ¬ x = y) (fun x y => x = y) 25 21), (21, zt_const (zI 1) 22), (22, zt_goto 26), (25, zt_const (zI 0) 26), (26, zt_zret K)]
set_option maxRecDepth 20000 in
theorem tk_X3_canScrape (d : Nat) (h_X3_topmost : zMS 2 yX3_topmost cX3_topmost 2 (some .int) sp_X3_topmost) : zTrue RX3 cX3_canScrape 3 (some .boolean) (d + 3) (fun kd K => tb_X3_canScrape kd K) := by
  intro p l e R s m args below meth c D cy A ad bl Qm K C0 hr hlocks hQ
  obtain ⟨hx, hb, hml, hown, hts, hK, hD, hA0, hN, hE, ⟨hR1, hR2⟩, hc1, hc2⟩ := id C0
  unfold tb_X3_canScrape
  refine List.forall_mem_cons.mpr ⟨ok_aload_n hx hb rfl dd_X3_canScrape_0, ?_⟩
  refine List.forall_mem_cons.mpr ⟨ok_iload_n hx hb rfl dd_X3_canScrape_1, ?_⟩
  refine List.forall_mem_cons.mpr ⟨ok_callV (n := 1) zc_X3 rv_X3_topmost C0 (h_X3_topmost (d + 2) (by omega)) (by decide) wd_336 wd_333 wd_335 wd_5 wd_102 ⟨rfl, by decide +kernel, by decide +kernel, by decide +kernel⟩ dd_X3_canScrape_2, ?_⟩
  refine List.forall_mem_cons.mpr ⟨ok_istore_n hx hb rfl dd_X3_canScrape_5, ?_⟩
  refine List.forall_mem_cons.mpr ⟨ok_iload_n hx hb rfl dd_X3_canScrape_6, ?_⟩
  refine List.forall_mem_cons.mpr ⟨ok_iconst hx hb dd_X3_canScrape_7 (by decide), ?_⟩
  refine List.forall_mem_cons.mpr ⟨ok_icmp_eq hx hb dd_X3_canScrape_8 (by decide), ?_⟩
  refine List.forall_mem_cons.mpr ⟨ok_aload_n hx hb rfl dd_X3_canScrape_11, ?_⟩
  refine List.forall_mem_cons.mpr ⟨ok_getR (j := 5) hx hb hts zi_X3 hown hK zc_X3 (by decide) rfl (fun t fl h => by cases h; rfl) (hts _ wd_142) dd_X3_canScrape_12, ?_⟩
  refine List.forall_mem_cons.mpr ⟨ok_iload_n hx hb rfl dd_X3_canScrape_15, ?_⟩
  refine List.forall_mem_cons.mpr ⟨ok_ald (ty := 0) rfl hx hb hK (Or.inl ⟨rfl, rfl, dd_X3_canScrape_16⟩), ?_⟩
  refine List.forall_mem_cons.mpr ⟨ok_iconst hx hb dd_X3_canScrape_17 (by decide), ?_⟩
  refine List.forall_mem_cons.mpr ⟨ok_icmp_ne hx hb dd_X3_canScrape_18 (by decide), ?_⟩
  refine List.forall_mem_cons.mpr ⟨ok_iconst hx hb dd_X3_canScrape_21 (by decide), ?_⟩
  refine List.forall_mem_cons.mpr ⟨ok_goto hx hb dd_X3_canScrape_22 (by decide), ?_⟩
  refine List.forall_mem_cons.mpr ⟨ok_iconst hx hb dd_X3_canScrape_25 (by decide), ?_⟩
  refine List.forall_mem_cons.mpr ⟨ok_zret hx hb hr hlocks hQ dd_X3_canScrape_26, ?_⟩
  exact fun _ h => absurd h List.not_mem_nil
set_option maxRecDepth 100000 in
theorem vc_X3_canScrape_0 {kd : Nat → Nat} {K : zK} {X : zX} (hX : ∀ (n pc : Nat) (ls : zLS) (st : List zV) (M : zM), zrun (tb_X3_canScrape kd K) [] n X pc ls st M → X pc ls st M) {t : Nat} {c : Int32} {M : zM} (hk0 : kd t = 3) (h : ∃ a1 : Sk, (RpS (M.1 t) a1) ∧ ∀ v1 : Int32, (v1.toInt = if (sk_top a1 c.toInt).isSome then 4 * c.toInt + sk_len a1 c.toInt - 1 else -1) → ((v1 = (-1 : Int32)) → K (some (zI ((0 : Int32)))) M) ∧ ((¬ v1 = (-1 : Int32)) → (zin (kd t) 6 0 v1) ∧ ((¬ (M.1 t 6 (v1).toNatClampNeg) = (-1 : Int32)) → K (some (zI ((0 : Int32)))) M) ∧ (((M.1 t 6 (v1).toNatClampNeg) = (-1 : Int32)) → K (some (zI ((1 : Int32)))) M))) : X 0 [some (zR t 0), some (zI (c)), none] [] M := hX 17 0 _ [] M (show (kd t = 3) ∧ ∃ a1 : Sk, (RpS (M.1 t) a1) ∧ ∀ v1 : Int32, (v1.toInt = if (sk_top a1 c.toInt).isSome then 4 * c.toInt + sk_len a1 c.toInt - 1 else -1) → ((v1 = (-1 : Int32)) → ((0 : Int32) = 0 ∨ (0 : Int32) = 1) ∧ K (some (zI ((0 : Int32)))) M) ∧ ((¬ v1 = (-1 : Int32)) → (kd t = 3) ∧ (zin (kd t) 6 0 v1) ∧ ((¬ (M.1 t 6 (v1).toNatClampNeg) = (-1 : Int32)) → ((0 : Int32) = 0 ∨ (0 : Int32) = 1) ∧ K (some (zI ((0 : Int32)))) M) ∧ (((M.1 t 6 (v1).toNatClampNeg) = (-1 : Int32)) → ((1 : Int32) = 0 ∨ (1 : Int32) = 1) ∧ K (some (zI ((1 : Int32)))) M)) from ⟨hk0, h.elim (fun a1 h => ⟨a1, ⟨h.1, have h := h.2; fun v1 => have h := h v1; fun q => have h := h q; ⟨fun q => have h := h.1 q; ⟨(Or.inl rfl), h⟩, fun q => have h := h.2 q; ⟨hk0, ⟨h.1, have h := h.2; ⟨fun q => have h := h.1 q; ⟨(Or.inl rfl), h⟩, fun q => have h := h.2 q; ⟨(Or.inr rfl), h⟩⟩⟩⟩⟩⟩⟩)⟩)
def sp_X3_canCover : zSpec := fun kd as M K => match as with
  | [.inr (.inr (.inl (t, 0))), .inl c] => (kd t = 3) ∧ ∃ a : Sk, (RpS (M.1 t) a) ∧ ∀ v : Int32, (v = zp (sk_canW a c.toInt = true)) → K (some (.inl v)) M
  | _ => False
theorem rv_X3_canCover : zrv sp_X3_canCover 3 1 := by
  intro kd as M K h
  unfold sp_X3_canCover at h
  split at h
  · exact ⟨_, _, rfl, h.1⟩
  · exact h.elim
theorem dd_X3_canCover_0 : decode cX3_canCover 0 = .ok (.aload_n 0, 1) := by decide +kernel
theorem dd_X3_canCover_1 : decode cX3_canCover 1 = .ok (.iload_n 1, 1) := by decide +kernel
theorem dd_X3_canCover_2 : decode cX3_canCover 2 = .ok (.invokevirtual 48, 3) := by decide +kernel
theorem dd_X3_canCover_5 : decode cX3_canCover 5 = .ok (.istore_n 2, 1) := by decide +kernel
theorem dd_X3_canCover_6 : decode cX3_canCover 6 = .ok (.iload_n 1, 1) := by decide +kernel
theorem dd_X3_canCover_7 : decode cX3_canCover 7 = .ok (.invokestatic 44, 3) := by decide +kernel
theorem dd_X3_canCover_10 : decode cX3_canCover 10 = .ok (.ifCond .eq 32, 3) := by decide +kernel
theorem dd_X3_canCover_13 : decode cX3_canCover 13 = .ok (.aload_n 0, 1) := by decide +kernel
theorem dd_X3_canCover_14 : decode cX3_canCover 14 = .ok (.getfield 9, 3) := by decide +kernel
theorem dd_X3_canCover_17 : decode cX3_canCover 17 = .ok (.iload_n 1, 1) := by decide +kernel
theorem dd_X3_canCover_18 : decode cX3_canCover 18 = .ok (.iaload, 1) := by decide +kernel
theorem dd_X3_canCover_19 : decode cX3_canCover 19 = .ok (.iconst 4, 1) := by decide +kernel
theorem dd_X3_canCover_20 : decode cX3_canCover 20 = .ok (.if_icmp .ge 22, 3) := by decide +kernel
theorem dd_X3_canCover_23 : decode cX3_canCover 23 = .ok (.iload_n 2, 1) := by decide +kernel
theorem dd_X3_canCover_24 : decode cX3_canCover 24 = .ok (.iconst (-1), 1) := by decide +kernel
theorem dd_X3_canCover_25 : decode cX3_canCover 25 = .ok (.if_icmp .eq 13, 3) := by decide +kernel
theorem dd_X3_canCover_28 : decode cX3_canCover 28 = .ok (.aload_n 0, 1) := by decide +kernel
theorem dd_X3_canCover_29 : decode cX3_canCover 29 = .ok (.getfield 27, 3) := by decide +kernel
theorem dd_X3_canCover_32 : decode cX3_canCover 32 = .ok (.iload_n 2, 1) := by decide +kernel
theorem dd_X3_canCover_33 : decode cX3_canCover 33 = .ok (.iaload, 1) := by decide +kernel
theorem dd_X3_canCover_34 : decode cX3_canCover 34 = .ok (.iconst (-1), 1) := by decide +kernel
theorem dd_X3_canCover_35 : decode cX3_canCover 35 = .ok (.if_icmp .eq 7, 3) := by decide +kernel
theorem dd_X3_canCover_38 : decode cX3_canCover 38 = .ok (.iconst 1, 1) := by decide +kernel
theorem dd_X3_canCover_39 : decode cX3_canCover 39 = .ok (.goto 4, 3) := by decide +kernel
theorem dd_X3_canCover_42 : decode cX3_canCover 42 = .ok (.iconst 0, 1) := by decide +kernel
theorem dd_X3_canCover_43 : decode cX3_canCover 43 = .ok (.ireturn, 1) := by decide +kernel
def tb_X3_canCover (kd : Nat → Nat) (K : zK) : zTab := [(0, zt_aload 0 1), (1, zt_iload 1 2), (2, zt_call kd sp_X3_topmost 2 5), (5, zt_istore 2 6), (6, zt_iload 1 7), (7, zt_call kd sp_X7_isCell 1 10), (10, zt_if (fun x => x = 0) (fun x => ¬ x = 0) 42 13), (13, zt_aload 0 14), (14, zt_getR kd 3 0 1 17), (17, zt_iload 1 18), (18, zt_ald kd 0 19), (19, zt_const (zI 4) 20), (20, zt_icmp (fun x y => y ≤ x) (fun x y => ¬ y ≤ x) 42 23), (23, zt_iload 2 24), (24, zt_const (zI (-1)) 25), (25, zt_icmp (fun x y => x = y) (fun x y => ¬ x = y) 38 28), (28, zt_aload 0 29), (29, zt_getR kd 3 0 6 32), (32, zt_iload 2 33), (33, zt_ald kd 0 34), (34, zt_const (zI (-1)) 35), (35, zt_icmp (fun x y => x = y) (fun x y => ¬ x = y) 42 38), (38, zt_const (zI 1) 39), (39, zt_goto 43), (42, zt_const (zI 0) 43), (43, zt_zret K)]
set_option maxRecDepth 20000 in
theorem tk_X3_canCover (d : Nat) (h_X3_topmost : zMS 2 yX3_topmost cX3_topmost 2 (some .int) sp_X3_topmost) (h_X7_isCell : zMS 1 yX7_isCell cX7_isCell 1 (some .boolean) sp_X7_isCell) : zTrue RX3 cX3_canCover 3 (some .boolean) (d + 3) (fun kd K => tb_X3_canCover kd K) := by
  intro p l e R s m args below meth c D cy A ad bl Qm K C0 hr hlocks hQ
  obtain ⟨hx, hb, hml, hown, hts, hK, hD, hA0, hN, hE, ⟨hR1, hR2⟩, hc1, hc2⟩ := id C0
  unfold tb_X3_canCover
  refine List.forall_mem_cons.mpr ⟨ok_aload_n hx hb rfl dd_X3_canCover_0, ?_⟩
  refine List.forall_mem_cons.mpr ⟨ok_iload_n hx hb rfl dd_X3_canCover_1, ?_⟩
  refine List.forall_mem_cons.mpr ⟨ok_callV (n := 1) zc_X3 rv_X3_topmost C0 (h_X3_topmost (d + 2) (by omega)) (by decide) wd_336 wd_333 wd_335 wd_5 wd_102 ⟨rfl, by decide +kernel, by decide +kernel, by decide +kernel⟩ dd_X3_canCover_2, ?_⟩
  refine List.forall_mem_cons.mpr ⟨ok_istore_n hx hb rfl dd_X3_canCover_5, ?_⟩
  refine List.forall_mem_cons.mpr ⟨ok_iload_n hx hb rfl dd_X3_canCover_6, ?_⟩
  refine List.forall_mem_cons.mpr ⟨ok_callSN (n := 1) C0 (h_X7_isCell (d + 2) (by omega)) (by decide) wd_318 nd_337 wd_317 wd_100 ⟨by decide +kernel, by decide +kernel, by decide +kernel⟩ dd_X3_canCover_7, ?_⟩
  refine List.forall_mem_cons.mpr ⟨ok_if_eq hx hb dd_X3_canCover_10 (by decide), ?_⟩
  refine List.forall_mem_cons.mpr ⟨ok_aload_n hx hb rfl dd_X3_canCover_13, ?_⟩
  refine List.forall_mem_cons.mpr ⟨ok_getR (j := 0) hx hb hts zi_X3 hown hK zc_X3 (by decide) rfl (fun t fl h => by cases h; rfl) (hts _ wd_136) dd_X3_canCover_14, ?_⟩
  refine List.forall_mem_cons.mpr ⟨ok_iload_n hx hb rfl dd_X3_canCover_17, ?_⟩
  refine List.forall_mem_cons.mpr ⟨ok_ald (ty := 0) rfl hx hb hK (Or.inl ⟨rfl, rfl, dd_X3_canCover_18⟩), ?_⟩
  refine List.forall_mem_cons.mpr ⟨ok_iconst hx hb dd_X3_canCover_19 (by decide), ?_⟩
  refine List.forall_mem_cons.mpr ⟨ok_icmp_ge hx hb dd_X3_canCover_20 (by decide), ?_⟩
  refine List.forall_mem_cons.mpr ⟨ok_iload_n hx hb rfl dd_X3_canCover_23, ?_⟩
  refine List.forall_mem_cons.mpr ⟨ok_iconst hx hb dd_X3_canCover_24 (by decide), ?_⟩
  refine List.forall_mem_cons.mpr ⟨ok_icmp_eq hx hb dd_X3_canCover_25 (by decide), ?_⟩
  refine List.forall_mem_cons.mpr ⟨ok_aload_n hx hb rfl dd_X3_canCover_28, ?_⟩
  refine List.forall_mem_cons.mpr ⟨ok_getR (j := 5) hx hb hts zi_X3 hown hK zc_X3 (by decide) rfl (fun t fl h => by cases h; rfl) (hts _ wd_142) dd_X3_canCover_29, ?_⟩
  refine List.forall_mem_cons.mpr ⟨ok_iload_n hx hb rfl dd_X3_canCover_32, ?_⟩
  refine List.forall_mem_cons.mpr ⟨ok_ald (ty := 0) rfl hx hb hK (Or.inl ⟨rfl, rfl, dd_X3_canCover_33⟩), ?_⟩
  refine List.forall_mem_cons.mpr ⟨ok_iconst hx hb dd_X3_canCover_34 (by decide), ?_⟩
  refine List.forall_mem_cons.mpr ⟨ok_icmp_eq hx hb dd_X3_canCover_35 (by decide), ?_⟩
  refine List.forall_mem_cons.mpr ⟨ok_iconst hx hb dd_X3_canCover_38 (by decide), ?_⟩
  refine List.forall_mem_cons.mpr ⟨ok_goto hx hb dd_X3_canCover_39 (by decide), ?_⟩
  refine List.forall_mem_cons.mpr ⟨ok_iconst hx hb dd_X3_canCover_42 (by decide), ?_⟩
  refine List.forall_mem_cons.mpr ⟨ok_zret hx hb hr hlocks hQ dd_X3_canCover_43, ?_⟩
  exact fun _ h => absurd h List.not_mem_nil
set_option maxRecDepth 100000 in
theorem vc_X3_canCover_0 {kd : Nat → Nat} {K : zK} {X : zX} (hX : ∀ (n pc : Nat) (ls : zLS) (st : List zV) (M : zM), zrun (tb_X3_canCover kd K) [] n X pc ls st M → X pc ls st M) {t : Nat} {c : Int32} {M : zM} (hk0 : kd t = 3) (h : ∃ a1 : Sk, (RpS (M.1 t) a1) ∧ ∀ v1 : Int32, (v1.toInt = if (sk_top a1 c.toInt).isSome then 4 * c.toInt + sk_len a1 c.toInt - 1 else -1) → ∀ v2 : Int32, (v2 = zp (0 ≤ c.toInt ∧ c.toInt < 6)) → ((v2 = 0) → K (some (zI ((0 : Int32)))) M) ∧ ((¬ v2 = 0) → (zin (kd t) 1 0 c) ∧ (((4 : Int32) ≤ (M.1 t 1 (c).toNatClampNeg)) → K (some (zI ((0 : Int32)))) M) ∧ ((¬ (4 : Int32) ≤ (M.1 t 1 (c).toNatClampNeg)) → ((v1 = (-1 : Int32)) → K (some (zI ((1 : Int32)))) M) ∧ ((¬ v1 = (-1 : Int32)) → (zin (kd t) 6 0 v1) ∧ (((M.1 t 6 (v1).toNatClampNeg) = (-1 : Int32)) → K (some (zI ((0 : Int32)))) M) ∧ ((¬ (M.1 t 6 (v1).toNatClampNeg) = (-1 : Int32)) → K (some (zI ((1 : Int32)))) M))))) : X 0 [some (zR t 0), some (zI (c)), none] [] M := hX 26 0 _ [] M (show (kd t = 3) ∧ ∃ a1 : Sk, (RpS (M.1 t) a1) ∧ ∀ v1 : Int32, (v1.toInt = if (sk_top a1 c.toInt).isSome then 4 * c.toInt + sk_len a1 c.toInt - 1 else -1) → ∀ v2 : Int32, (v2 = zp (0 ≤ c.toInt ∧ c.toInt < 6)) → ((v2 = 0) → ((0 : Int32) = 0 ∨ (0 : Int32) = 1) ∧ K (some (zI ((0 : Int32)))) M) ∧ ((¬ v2 = 0) → (kd t = 3) ∧ (zin (kd t) 1 0 c) ∧ (((4 : Int32) ≤ (M.1 t 1 (c).toNatClampNeg)) → ((0 : Int32) = 0 ∨ (0 : Int32) = 1) ∧ K (some (zI ((0 : Int32)))) M) ∧ ((¬ (4 : Int32) ≤ (M.1 t 1 (c).toNatClampNeg)) → ((v1 = (-1 : Int32)) → ((1 : Int32) = 0 ∨ (1 : Int32) = 1) ∧ K (some (zI ((1 : Int32)))) M) ∧ ((¬ v1 = (-1 : Int32)) → (kd t = 3) ∧ (zin (kd t) 6 0 v1) ∧ (((M.1 t 6 (v1).toNatClampNeg) = (-1 : Int32)) → ((0 : Int32) = 0 ∨ (0 : Int32) = 1) ∧ K (some (zI ((0 : Int32)))) M) ∧ ((¬ (M.1 t 6 (v1).toNatClampNeg) = (-1 : Int32)) → ((1 : Int32) = 0 ∨ (1 : Int32) = 1) ∧ K (some (zI ((1 : Int32)))) M)))) from ⟨hk0, h.elim (fun a1 h => ⟨a1, ⟨h.1, have h := h.2; fun v1 => have h := h v1; fun q => have h := h q; fun v2 => have h := h v2; fun q => have h := h q; ⟨fun q => have h := h.1 q; ⟨(Or.inl rfl), h⟩, fun q => have h := h.2 q; ⟨hk0, ⟨h.1, have h := h.2; ⟨fun q => have h := h.1 q; ⟨(Or.inl rfl), h⟩, fun q => have h := h.2 q; ⟨fun q => have h := h.1 q; ⟨(Or.inr rfl), h⟩, fun q => have h := h.2 q; ⟨hk0, ⟨h.1, have h := h.2; ⟨fun q => have h := h.1 q; ⟨(Or.inl rfl), h⟩, fun q => have h := h.2 q; ⟨(Or.inr rfl), h⟩⟩⟩⟩⟩⟩⟩⟩⟩⟩⟩)⟩)
def sp_X3_cover : zSpec := fun kd as M K => match as with
  | [.inr (.inr (.inl (t, 0))), .inl c, .inl k, .inl g, .inl e] => (kd t = 3) ∧ ∃ a : Sk, (RpS (M.1 t) a) ∧ (0 ≤ c.toInt ∧ c.toInt < 6) ∧ (sk_canR a c.toInt = false) ∧ (0 ≤ k.toInt ∧ k.toInt ≤ 5) ∧ (0 ≤ g.toInt ∧ g.toInt ≤ 4) ∧ (e.toInt = 0 ∨ e.toInt = 1) ∧ ∀ v : Int32, (v.toInt = if sk_len a c.toInt < 4 then sk_len a c.toInt else -1) → ∀ S' : zB, (RpS S' (sk_wr a c.toInt k.toInt g.toInt e.toInt)) → ∀ M' : zM, (M' = zbs M t S') → K (some (.inl v)) M'
  | _ => False
theorem rv_X3_cover : zrv sp_X3_cover 3 4 := by
  intro kd as M K h
  unfold sp_X3_cover at h
  split at h
  · exact ⟨_, _, rfl, h.1⟩
  · exact h.elim
theorem dd_X3_cover_0 : decode cX3_cover 0 = .ok (.iload_n 1, 1) := by decide +kernel
theorem dd_X3_cover_1 : decode cX3_cover 1 = .ok (.invokestatic 44, 3) := by decide +kernel
theorem dd_X3_cover_4 : decode cX3_cover 4 = .ok (.ifCond .eq 12, 3) := by decide +kernel
theorem dd_X3_cover_7 : decode cX3_cover 7 = .ok (.aload_n 0, 1) := by decide +kernel
theorem dd_X3_cover_8 : decode cX3_cover 8 = .ok (.getfield 9, 3) := by decide +kernel
theorem dd_X3_cover_11 : decode cX3_cover 11 = .ok (.iload_n 1, 1) := by decide +kernel
theorem dd_X3_cover_12 : decode cX3_cover 12 = .ok (.iaload, 1) := by decide +kernel
theorem dd_X3_cover_13 : decode cX3_cover 13 = .ok (.goto 4, 3) := by decide +kernel
theorem dd_X3_cover_16 : decode cX3_cover 16 = .ok (.iconst (-1), 1) := by decide +kernel
theorem dd_X3_cover_17 : decode cX3_cover 17 = .ok (.istore 5, 2) := by decide +kernel
theorem dd_X3_cover_19 : decode cX3_cover 19 = .ok (.iload 5, 2) := by decide +kernel
theorem dd_X3_cover_21 : decode cX3_cover 21 = .ok (.ifCond .lt 9, 3) := by decide +kernel
theorem dd_X3_cover_24 : decode cX3_cover 24 = .ok (.iload 5, 2) := by decide +kernel
theorem dd_X3_cover_26 : decode cX3_cover 26 = .ok (.iconst 4, 1) := by decide +kernel
theorem dd_X3_cover_27 : decode cX3_cover 27 = .ok (.if_icmp .lt 5, 3) := by decide +kernel
theorem dd_X3_cover_30 : decode cX3_cover 30 = .ok (.iconst (-1), 1) := by decide +kernel
theorem dd_X3_cover_31 : decode cX3_cover 31 = .ok (.ireturn, 1) := by decide +kernel
theorem dd_X3_cover_32 : decode cX3_cover 32 = .ok (.aload_n 0, 1) := by decide +kernel
theorem dd_X3_cover_33 : decode cX3_cover 33 = .ok (.getfield 9, 3) := by decide +kernel
theorem dd_X3_cover_36 : decode cX3_cover 36 = .ok (.iload_n 1, 1) := by decide +kernel
theorem dd_X3_cover_37 : decode cX3_cover 37 = .ok (.iload 5, 2) := by decide +kernel
theorem dd_X3_cover_39 : decode cX3_cover 39 = .ok (.iconst 1, 1) := by decide +kernel
theorem dd_X3_cover_40 : decode cX3_cover 40 = .ok (.iadd, 1) := by decide +kernel
theorem dd_X3_cover_41 : decode cX3_cover 41 = .ok (.iastore, 1) := by decide +kernel
theorem dd_X3_cover_42 : decode cX3_cover 42 = .ok (.iload_n 1, 1) := by decide +kernel
theorem dd_X3_cover_43 : decode cX3_cover 43 = .ok (.iconst 4, 1) := by decide +kernel
theorem dd_X3_cover_44 : decode cX3_cover 44 = .ok (.imul, 1) := by decide +kernel
theorem dd_X3_cover_45 : decode cX3_cover 45 = .ok (.iload 5, 2) := by decide +kernel
theorem dd_X3_cover_47 : decode cX3_cover 47 = .ok (.iadd, 1) := by decide +kernel
theorem dd_X3_cover_48 : decode cX3_cover 48 = .ok (.istore 6, 2) := by decide +kernel
theorem dd_X3_cover_50 : decode cX3_cover 50 = .ok (.aload_n 0, 1) := by decide +kernel
theorem dd_X3_cover_51 : decode cX3_cover 51 = .ok (.getfield 15, 3) := by decide +kernel
theorem dd_X3_cover_54 : decode cX3_cover 54 = .ok (.iload 6, 2) := by decide +kernel
theorem dd_X3_cover_56 : decode cX3_cover 56 = .ok (.iload_n 2, 1) := by decide +kernel
theorem dd_X3_cover_57 : decode cX3_cover 57 = .ok (.iastore, 1) := by decide +kernel
theorem dd_X3_cover_58 : decode cX3_cover 58 = .ok (.aload_n 0, 1) := by decide +kernel
theorem dd_X3_cover_59 : decode cX3_cover 59 = .ok (.getfield 18, 3) := by decide +kernel
theorem dd_X3_cover_62 : decode cX3_cover 62 = .ok (.iload 6, 2) := by decide +kernel
theorem dd_X3_cover_64 : decode cX3_cover 64 = .ok (.iload_n 3, 1) := by decide +kernel
theorem dd_X3_cover_65 : decode cX3_cover 65 = .ok (.iastore, 1) := by decide +kernel
theorem dd_X3_cover_66 : decode cX3_cover 66 = .ok (.aload_n 0, 1) := by decide +kernel
theorem dd_X3_cover_67 : decode cX3_cover 67 = .ok (.getfield 21, 3) := by decide +kernel
theorem dd_X3_cover_70 : decode cX3_cover 70 = .ok (.iload 6, 2) := by decide +kernel
theorem dd_X3_cover_72 : decode cX3_cover 72 = .ok (.iload 4, 2) := by decide +kernel
theorem dd_X3_cover_74 : decode cX3_cover 74 = .ok (.iastore, 1) := by decide +kernel
theorem dd_X3_cover_75 : decode cX3_cover 75 = .ok (.aload_n 0, 1) := by decide +kernel
theorem dd_X3_cover_76 : decode cX3_cover 76 = .ok (.getfield 24, 3) := by decide +kernel
theorem dd_X3_cover_79 : decode cX3_cover 79 = .ok (.iload 6, 2) := by decide +kernel
theorem dd_X3_cover_81 : decode cX3_cover 81 = .ok (.aload_n 0, 1) := by decide +kernel
theorem dd_X3_cover_82 : decode cX3_cover 82 = .ok (.getfield 30, 3) := by decide +kernel
theorem dd_X3_cover_85 : decode cX3_cover 85 = .ok (.iastore, 1) := by decide +kernel
theorem dd_X3_cover_86 : decode cX3_cover 86 = .ok (.aload_n 0, 1) := by decide +kernel
theorem dd_X3_cover_87 : decode cX3_cover 87 = .ok (.getfield 27, 3) := by decide +kernel
theorem dd_X3_cover_90 : decode cX3_cover 90 = .ok (.iload 6, 2) := by decide +kernel
theorem dd_X3_cover_92 : decode cX3_cover 92 = .ok (.iconst (-1), 1) := by decide +kernel
theorem dd_X3_cover_93 : decode cX3_cover 93 = .ok (.iastore, 1) := by decide +kernel
theorem dd_X3_cover_94 : decode cX3_cover 94 = .ok (.iload 5, 2) := by decide +kernel
theorem dd_X3_cover_96 : decode cX3_cover 96 = .ok (.ireturn, 1) := by decide +kernel
def tb_X3_cover (kd : Nat → Nat) (K : zK) : zTab := [(0, zt_iload 1 1), (1, zt_call kd sp_X7_isCell 1 4), (4, zt_if (fun x => x = 0) (fun x => ¬ x = 0) 16 7), (7, zt_aload 0 8), (8, zt_getR kd 3 0 1 11), (11, zt_iload 1 12), (12, zt_ald kd 0 13), (13, zt_goto 17), (16, zt_const (zI (-1)) 17), (17, zt_istore 5 19), (19, zt_iload 5 21), (21, zt_if (fun x => x < 0) (fun x => ¬ x < 0) 30 24), (24, zt_iload 5 26), (26, zt_const (zI 4) 27), (27, zt_icmp (fun x y => x < y) (fun x y => ¬ x < y) 32 30), (30, zt_const (zI (-1)) 31), (31, zt_iret K), (32, zt_aload 0 33), (33, zt_getR kd 3 0 1 36), (36, zt_iload 1 37), (37, zt_iload 5 39), (39, zt_const (zI 1) 40), (40, zt_bin (fun x y => x + y) 41), (41, zt_ast kd 0 42), (42, zt_iload 1 43), (43, zt_const (zI 4) 44), (44, zt_bin (fun x y => x * y) 45), (45, zt_iload 5 47), (47, zt_bin (fun x y => x + y) 48), (48, zt_istore 6 50), (50, zt_aload 0 51), (51, zt_getR kd 3 0 2 54), (54, zt_iload 6 56), (56, zt_iload 2 57), (57, zt_ast kd 0 58), (58, zt_aload 0 59), (59, zt_getR kd 3 0 3 62), (62, zt_iload 6 64), (64, zt_iload 3 65), (65, zt_ast kd 0 66), (66, zt_aload 0 67), (67, zt_getR kd 3 0 4 70), (70, zt_iload 6 72), (72, zt_iload 4 74), (74, zt_ast kd 0 75), (75, zt_aload 0 76), (76, zt_getR kd 3 0 5 79), (79, zt_iload 6 81), (81, zt_aload 0 82), (82, zt_getI kd 3 6 85), (85, zt_ast kd 0 86), (86, zt_aload 0 87), (87, zt_getR kd 3 0 6 90), (90, zt_iload 6 92), (92, zt_const (zI (-1)) 93), (93, zt_ast kd 0 94), (94, zt_iload 5 96), (96, zt_iret K)]
set_option maxRecDepth 20000 in
theorem tk_X3_cover (d : Nat) (h_X7_isCell : zMS 1 yX7_isCell cX7_isCell 1 (some .boolean) sp_X7_isCell) : zTrue RX3 cX3_cover 7 (some .int) (d + 2) (fun kd K => tb_X3_cover kd K) := by
  intro p l e R s m args below meth c D cy A ad bl Qm K C0 hr hlocks hQ
  obtain ⟨hx, hb, hml, hown, hts, hK, hD, hA0, hN, hE, ⟨hR1, hR2⟩, hc1, hc2⟩ := id C0
  unfold tb_X3_cover
  refine List.forall_mem_cons.mpr ⟨ok_iload_n hx hb rfl dd_X3_cover_0, ?_⟩
  refine List.forall_mem_cons.mpr ⟨ok_callSN (n := 1) C0 (h_X7_isCell (d + 1) (by omega)) (by decide) wd_318 nd_337 wd_317 wd_100 ⟨by decide +kernel, by decide +kernel, by decide +kernel⟩ dd_X3_cover_1, ?_⟩
  refine List.forall_mem_cons.mpr ⟨ok_if_eq hx hb dd_X3_cover_4 (by decide), ?_⟩
  refine List.forall_mem_cons.mpr ⟨ok_aload_n hx hb rfl dd_X3_cover_7, ?_⟩
  refine List.forall_mem_cons.mpr ⟨ok_getR (j := 0) hx hb hts zi_X3 hown hK zc_X3 (by decide) rfl (fun t fl h => by cases h; rfl) (hts _ wd_136) dd_X3_cover_8, ?_⟩
  refine List.forall_mem_cons.mpr ⟨ok_iload_n hx hb rfl dd_X3_cover_11, ?_⟩
  refine List.forall_mem_cons.mpr ⟨ok_ald (ty := 0) rfl hx hb hK (Or.inl ⟨rfl, rfl, dd_X3_cover_12⟩), ?_⟩
  refine List.forall_mem_cons.mpr ⟨ok_goto hx hb dd_X3_cover_13 (by decide), ?_⟩
  refine List.forall_mem_cons.mpr ⟨ok_iconst hx hb dd_X3_cover_16 (by decide), ?_⟩
  refine List.forall_mem_cons.mpr ⟨ok_istore hx hb dd_X3_cover_17, ?_⟩
  refine List.forall_mem_cons.mpr ⟨ok_iload hx hb dd_X3_cover_19, ?_⟩
  refine List.forall_mem_cons.mpr ⟨ok_if_lt hx hb dd_X3_cover_21 (by decide), ?_⟩
  refine List.forall_mem_cons.mpr ⟨ok_iload hx hb dd_X3_cover_24, ?_⟩
  refine List.forall_mem_cons.mpr ⟨ok_iconst hx hb dd_X3_cover_26 (by decide), ?_⟩
  refine List.forall_mem_cons.mpr ⟨ok_icmp_lt hx hb dd_X3_cover_27 (by decide), ?_⟩
  refine List.forall_mem_cons.mpr ⟨ok_iconst hx hb dd_X3_cover_30 (by decide), ?_⟩
  refine List.forall_mem_cons.mpr ⟨ok_iret hx hb hr hlocks hQ dd_X3_cover_31, ?_⟩
  refine List.forall_mem_cons.mpr ⟨ok_aload_n hx hb rfl dd_X3_cover_32, ?_⟩
  refine List.forall_mem_cons.mpr ⟨ok_getR (j := 0) hx hb hts zi_X3 hown hK zc_X3 (by decide) rfl (fun t fl h => by cases h; rfl) (hts _ wd_136) dd_X3_cover_33, ?_⟩
  refine List.forall_mem_cons.mpr ⟨ok_iload_n hx hb rfl dd_X3_cover_36, ?_⟩
  refine List.forall_mem_cons.mpr ⟨ok_iload hx hb dd_X3_cover_37, ?_⟩
  refine List.forall_mem_cons.mpr ⟨ok_iconst hx hb dd_X3_cover_39 (by decide), ?_⟩
  refine List.forall_mem_cons.mpr ⟨ok_iadd hx hb dd_X3_cover_40, ?_⟩
  refine List.forall_mem_cons.mpr ⟨ok_ast (ty := 0) rfl hx hb hK hD (Or.inl ⟨rfl, rfl, dd_X3_cover_41⟩), ?_⟩
  refine List.forall_mem_cons.mpr ⟨ok_iload_n hx hb rfl dd_X3_cover_42, ?_⟩
  refine List.forall_mem_cons.mpr ⟨ok_iconst hx hb dd_X3_cover_43 (by decide), ?_⟩
  refine List.forall_mem_cons.mpr ⟨ok_imul hx hb dd_X3_cover_44, ?_⟩
  refine List.forall_mem_cons.mpr ⟨ok_iload hx hb dd_X3_cover_45, ?_⟩
  refine List.forall_mem_cons.mpr ⟨ok_iadd hx hb dd_X3_cover_47, ?_⟩
  refine List.forall_mem_cons.mpr ⟨ok_istore hx hb dd_X3_cover_48, ?_⟩
  refine List.forall_mem_cons.mpr ⟨ok_aload_n hx hb rfl dd_X3_cover_50, ?_⟩
  refine List.forall_mem_cons.mpr ⟨ok_getR (j := 1) hx hb hts zi_X3 hown hK zc_X3 (by decide) rfl (fun t fl h => by cases h; rfl) (hts _ wd_138) dd_X3_cover_51, ?_⟩
  refine List.forall_mem_cons.mpr ⟨ok_iload hx hb dd_X3_cover_54, ?_⟩
  refine List.forall_mem_cons.mpr ⟨ok_iload_n hx hb rfl dd_X3_cover_56, ?_⟩
  refine List.forall_mem_cons.mpr ⟨ok_ast (ty := 0) rfl hx hb hK hD (Or.inl ⟨rfl, rfl, dd_X3_cover_57⟩), ?_⟩
  refine List.forall_mem_cons.mpr ⟨ok_aload_n hx hb rfl dd_X3_cover_58, ?_⟩
  refine List.forall_mem_cons.mpr ⟨ok_getR (j := 2) hx hb hts zi_X3 hown hK zc_X3 (by decide) rfl (fun t fl h => by cases h; rfl) (hts _ wd_139) dd_X3_cover_59, ?_⟩
  refine List.forall_mem_cons.mpr ⟨ok_iload hx hb dd_X3_cover_62, ?_⟩
  refine List.forall_mem_cons.mpr ⟨ok_iload_n hx hb rfl dd_X3_cover_64, ?_⟩
  refine List.forall_mem_cons.mpr ⟨ok_ast (ty := 0) rfl hx hb hK hD (Or.inl ⟨rfl, rfl, dd_X3_cover_65⟩), ?_⟩
  refine List.forall_mem_cons.mpr ⟨ok_aload_n hx hb rfl dd_X3_cover_66, ?_⟩
  refine List.forall_mem_cons.mpr ⟨ok_getR (j := 3) hx hb hts zi_X3 hown hK zc_X3 (by decide) rfl (fun t fl h => by cases h; rfl) (hts _ wd_140) dd_X3_cover_67, ?_⟩
  refine List.forall_mem_cons.mpr ⟨ok_iload hx hb dd_X3_cover_70, ?_⟩
  refine List.forall_mem_cons.mpr ⟨ok_iload hx hb dd_X3_cover_72, ?_⟩
  refine List.forall_mem_cons.mpr ⟨ok_ast (ty := 0) rfl hx hb hK hD (Or.inl ⟨rfl, rfl, dd_X3_cover_74⟩), ?_⟩
  refine List.forall_mem_cons.mpr ⟨ok_aload_n hx hb rfl dd_X3_cover_75, ?_⟩
  refine List.forall_mem_cons.mpr ⟨ok_getR (j := 4) hx hb hts zi_X3 hown hK zc_X3 (by decide) rfl (fun t fl h => by cases h; rfl) (hts _ wd_141) dd_X3_cover_76, ?_⟩
  refine List.forall_mem_cons.mpr ⟨ok_iload hx hb dd_X3_cover_79, ?_⟩
  refine List.forall_mem_cons.mpr ⟨ok_aload_n hx hb rfl dd_X3_cover_81, ?_⟩
  refine List.forall_mem_cons.mpr ⟨ok_getI (j := 6) hx hb hts zi_X3 hown hK zc_X3 (by decide) rfl (fun t fl h => by cases h; rfl) (hts _ wd_143) dd_X3_cover_82, ?_⟩
  refine List.forall_mem_cons.mpr ⟨ok_ast (ty := 0) rfl hx hb hK hD (Or.inl ⟨rfl, rfl, dd_X3_cover_85⟩), ?_⟩
  refine List.forall_mem_cons.mpr ⟨ok_aload_n hx hb rfl dd_X3_cover_86, ?_⟩
  refine List.forall_mem_cons.mpr ⟨ok_getR (j := 5) hx hb hts zi_X3 hown hK zc_X3 (by decide) rfl (fun t fl h => by cases h; rfl) (hts _ wd_142) dd_X3_cover_87, ?_⟩
  refine List.forall_mem_cons.mpr ⟨ok_iload hx hb dd_X3_cover_90, ?_⟩
  refine List.forall_mem_cons.mpr ⟨ok_iconst hx hb dd_X3_cover_92 (by decide), ?_⟩
  refine List.forall_mem_cons.mpr ⟨ok_ast (ty := 0) rfl hx hb hK hD (Or.inl ⟨rfl, rfl, dd_X3_cover_93⟩), ?_⟩
  refine List.forall_mem_cons.mpr ⟨ok_iload hx hb dd_X3_cover_94, ?_⟩
  refine List.forall_mem_cons.mpr ⟨ok_iret hx hb hr hlocks hQ dd_X3_cover_96, ?_⟩
  exact fun _ h => absurd h List.not_mem_nil
set_option maxRecDepth 100000 in
theorem vc_X3_cover_0 {kd : Nat → Nat} {K : zK} {X : zX} (hX : ∀ (n pc : Nat) (ls : zLS) (st : List zV) (M : zM), zrun (tb_X3_cover kd K) [] n X pc ls st M → X pc ls st M) {t : Nat} {c : Int32} {k : Int32} {g : Int32} {e : Int32} {M : zM} (hk0 : kd t = 3) (h : ∀ v1 : Int32, (v1 = zp (0 ≤ c.toInt ∧ c.toInt < 6)) → ((v1 = 0) → K (some (zI ((-1 : Int32)))) M) ∧ ((¬ v1 = 0) → (zin (kd t) 1 0 c) ∧ (((M.1 t 1 (c).toNatClampNeg) < 0) → K (some (zI ((-1 : Int32)))) M) ∧ ((¬ (M.1 t 1 (c).toNatClampNeg) < 0) → (((M.1 t 1 (c).toNatClampNeg) < (4 : Int32)) → (zin (kd t) 1 0 c) ∧ ∀ M8 : zM, (M8 = zmw M t 1 (upd (M.1 t 1) (c).toNatClampNeg ((M.1 t 1 (c).toNatClampNeg) + (1 : Int32)))) → (zin (kd t) 2 0 ((c * (4 : Int32)) + (M.1 t 1 (c).toNatClampNeg))) ∧ ∀ M9 : zM, (M9 = zmw M8 t 2 (upd (M8.1 t 2) ((c * (4 : Int32)) + (M.1 t 1 (c).toNatClampNeg)).toNatClampNeg k)) → (zin (kd t) 3 0 ((c * (4 : Int32)) + (M.1 t 1 (c).toNatClampNeg))) ∧ ∀ M10 : zM, (M10 = zmw M9 t 3 (upd (M9.1 t 3) ((c * (4 : Int32)) + (M.1 t 1 (c).toNatClampNeg)).toNatClampNeg g)) → (zin (kd t) 4 0 ((c * (4 : Int32)) + (M.1 t 1 (c).toNatClampNeg))) ∧ ∀ M11 : zM, (M11 = zmw M10 t 4 (upd (M10.1 t 4) ((c * (4 : Int32)) + (M.1 t 1 (c).toNatClampNeg)).toNatClampNeg e)) → (zin (kd t) 5 0 ((c * (4 : Int32)) + (M.1 t 1 (c).toNatClampNeg))) ∧ ∀ M12 : zM, (M12 = zmw M11 t 5 (upd (M11.1 t 5) ((c * (4 : Int32)) + (M.1 t 1 (c).toNatClampNeg)).toNatClampNeg (M11.1 t 0 6))) → (zin (kd t) 6 0 ((c * (4 : Int32)) + (M.1 t 1 (c).toNatClampNeg))) ∧ ∀ M13 : zM, (M13 = zmw M12 t 6 (upd (M12.1 t 6) ((c * (4 : Int32)) + (M.1 t 1 (c).toNatClampNeg)).toNatClampNeg (-1 : Int32))) → K (some (zI (M.1 t 1 (c).toNatClampNeg))) M13) ∧ ((¬ (M.1 t 1 (c).toNatClampNeg) < (4 : Int32)) → K (some (zI ((-1 : Int32)))) M)))) : X 0 [some (zR t 0), some (zI (c)), some (zI (k)), some (zI (g)), some (zI (e)), none, none] [] M := hX 56 0 _ [] M (show ∀ v1 : Int32, (v1 = zp (0 ≤ c.toInt ∧ c.toInt < 6)) → ((v1 = 0) → (((-1 : Int32) < 0) → K (some (zI ((-1 : Int32)))) M) ∧ ((¬ (-1 : Int32) < 0) → (((-1 : Int32) < (4 : Int32)) → (kd t = 3) ∧ (zin (kd t) 1 0 c) ∧ ∀ M2 : zM, (M2 = zmw M t 1 (upd (M.1 t 1) (c).toNatClampNeg ((-1 : Int32) + (1 : Int32)))) → (kd t = 3) ∧ (zin (kd t) 2 0 ((c * (4 : Int32)) + (-1 : Int32))) ∧ ∀ M3 : zM, (M3 = zmw M2 t 2 (upd (M2.1 t 2) ((c * (4 : Int32)) + (-1 : Int32)).toNatClampNeg k)) → (kd t = 3) ∧ (zin (kd t) 3 0 ((c * (4 : Int32)) + (-1 : Int32))) ∧ ∀ M4 : zM, (M4 = zmw M3 t 3 (upd (M3.1 t 3) ((c * (4 : Int32)) + (-1 : Int32)).toNatClampNeg g)) → (kd t = 3) ∧ (zin (kd t) 4 0 ((c * (4 : Int32)) + (-1 : Int32))) ∧ ∀ M5 : zM, (M5 = zmw M4 t 4 (upd (M4.1 t 4) ((c * (4 : Int32)) + (-1 : Int32)).toNatClampNeg e)) → (kd t = 3) ∧ (kd t = 3) ∧ (zin (kd t) 5 0 ((c * (4 : Int32)) + (-1 : Int32))) ∧ ∀ M6 : zM, (M6 = zmw M5 t 5 (upd (M5.1 t 5) ((c * (4 : Int32)) + (-1 : Int32)).toNatClampNeg (M5.1 t 0 6))) → (kd t = 3) ∧ (zin (kd t) 6 0 ((c * (4 : Int32)) + (-1 : Int32))) ∧ ∀ M7 : zM, (M7 = zmw M6 t 6 (upd (M6.1 t 6) ((c * (4 : Int32)) + (-1 : Int32)).toNatClampNeg (-1 : Int32))) → K (some (zI ((-1 : Int32)))) M7) ∧ ((¬ (-1 : Int32) < (4 : Int32)) → K (some (zI ((-1 : Int32)))) M))) ∧ ((¬ v1 = 0) → (kd t = 3) ∧ (zin (kd t) 1 0 c) ∧ (((M.1 t 1 (c).toNatClampNeg) < 0) → K (some (zI ((-1 : Int32)))) M) ∧ ((¬ (M.1 t 1 (c).toNatClampNeg) < 0) → (((M.1 t 1 (c).toNatClampNeg) < (4 : Int32)) → (kd t = 3) ∧ (zin (kd t) 1 0 c) ∧ ∀ M8 : zM, (M8 = zmw M t 1 (upd (M.1 t 1) (c).toNatClampNeg ((M.1 t 1 (c).toNatClampNeg) + (1 : Int32)))) → (kd t = 3) ∧ (zin (kd t) 2 0 ((c * (4 : Int32)) + (M.1 t 1 (c).toNatClampNeg))) ∧ ∀ M9 : zM, (M9 = zmw M8 t 2 (upd (M8.1 t 2) ((c * (4 : Int32)) + (M.1 t 1 (c).toNatClampNeg)).toNatClampNeg k)) → (kd t = 3) ∧ (zin (kd t) 3 0 ((c * (4 : Int32)) + (M.1 t 1 (c).toNatClampNeg))) ∧ ∀ M10 : zM, (M10 = zmw M9 t 3 (upd (M9.1 t 3) ((c * (4 : Int32)) + (M.1 t 1 (c).toNatClampNeg)).toNatClampNeg g)) → (kd t = 3) ∧ (zin (kd t) 4 0 ((c * (4 : Int32)) + (M.1 t 1 (c).toNatClampNeg))) ∧ ∀ M11 : zM, (M11 = zmw M10 t 4 (upd (M10.1 t 4) ((c * (4 : Int32)) + (M.1 t 1 (c).toNatClampNeg)).toNatClampNeg e)) → (kd t = 3) ∧ (kd t = 3) ∧ (zin (kd t) 5 0 ((c * (4 : Int32)) + (M.1 t 1 (c).toNatClampNeg))) ∧ ∀ M12 : zM, (M12 = zmw M11 t 5 (upd (M11.1 t 5) ((c * (4 : Int32)) + (M.1 t 1 (c).toNatClampNeg)).toNatClampNeg (M11.1 t 0 6))) → (kd t = 3) ∧ (zin (kd t) 6 0 ((c * (4 : Int32)) + (M.1 t 1 (c).toNatClampNeg))) ∧ ∀ M13 : zM, (M13 = zmw M12 t 6 (upd (M12.1 t 6) ((c * (4 : Int32)) + (M.1 t 1 (c).toNatClampNeg)).toNatClampNeg (-1 : Int32))) → K (some (zI (M.1 t 1 (c).toNatClampNeg))) M13) ∧ ((¬ (M.1 t 1 (c).toNatClampNeg) < (4 : Int32)) → K (some (zI ((-1 : Int32)))) M))) from fun v1 => have h := h v1; fun q => have h := h q; ⟨fun q => have h := h.1 q; ⟨fun _ => h, fun q => absurd q (by decide)⟩, fun q => have h := h.2 q; ⟨hk0, ⟨h.1, have h := h.2; ⟨fun q => have h := h.1 q; h, fun q => have h := h.2 q; ⟨fun q => have h := h.1 q; ⟨hk0, ⟨h.1, have h := h.2; fun M8 => have h := h M8; fun q => have h := h q; ⟨hk0, ⟨h.1, have h := h.2; fun M9 => have h := h M9; fun q => have h := h q; ⟨hk0, ⟨h.1, have h := h.2; fun M10 => have h := h M10; fun q => have h := h q; ⟨hk0, ⟨h.1, have h := h.2; fun M11 => have h := h M11; fun q => have h := h q; ⟨hk0, ⟨hk0, ⟨h.1, have h := h.2; fun M12 => have h := h M12; fun q => have h := h q; ⟨hk0, ⟨h.1, have h := h.2; fun M13 => have h := h M13; fun q => have h := h q; h⟩⟩⟩⟩⟩⟩⟩⟩⟩⟩⟩⟩⟩, fun q => have h := h.2 q; h⟩⟩⟩⟩⟩)
def sp_X3_scrape : zSpec := fun kd as M K => match as with
  | [.inr (.inr (.inl (t, 0))), .inl c] => (kd t = 3) ∧ ∃ a : Sk, (RpS (M.1 t) a) ∧ ∃ l : Ly, (sk_top a c.toInt = some l) ∧ (l.2.2.2.2 = -1) ∧ ∀ v : Int32, (v.toInt = a.2 - l.2.2.2.1) → ∀ S' : zB, (RpS S' (sk_rub a c.toInt)) → ∀ M' : zM, (M' = zbs M t S') → K (some (.inl v)) M'
  | _ => False
theorem rv_X3_scrape : zrv sp_X3_scrape 3 1 := by
  intro kd as M K h
  unfold sp_X3_scrape at h
  split at h
  · exact ⟨_, _, rfl, h.1⟩
  · exact h.elim
theorem dd_X3_scrape_0 : decode cX3_scrape 0 = .ok (.aload_n 0, 1) := by decide +kernel
theorem dd_X3_scrape_1 : decode cX3_scrape 1 = .ok (.iload_n 1, 1) := by decide +kernel
theorem dd_X3_scrape_2 : decode cX3_scrape 2 = .ok (.invokevirtual 48, 3) := by decide +kernel
theorem dd_X3_scrape_5 : decode cX3_scrape 5 = .ok (.istore_n 2, 1) := by decide +kernel
theorem dd_X3_scrape_6 : decode cX3_scrape 6 = .ok (.iload_n 2, 1) := by decide +kernel
theorem dd_X3_scrape_7 : decode cX3_scrape 7 = .ok (.iconst (-1), 1) := by decide +kernel
theorem dd_X3_scrape_8 : decode cX3_scrape 8 = .ok (.if_icmp .eq 13, 3) := by decide +kernel
theorem dd_X3_scrape_11 : decode cX3_scrape 11 = .ok (.aload_n 0, 1) := by decide +kernel
theorem dd_X3_scrape_12 : decode cX3_scrape 12 = .ok (.getfield 27, 3) := by decide +kernel
theorem dd_X3_scrape_15 : decode cX3_scrape 15 = .ok (.iload_n 2, 1) := by decide +kernel
theorem dd_X3_scrape_16 : decode cX3_scrape 16 = .ok (.iaload, 1) := by decide +kernel
theorem dd_X3_scrape_17 : decode cX3_scrape 17 = .ok (.iconst (-1), 1) := by decide +kernel
theorem dd_X3_scrape_18 : decode cX3_scrape 18 = .ok (.if_icmp .eq 5, 3) := by decide +kernel
theorem dd_X3_scrape_21 : decode cX3_scrape 21 = .ok (.iconst (-1), 1) := by decide +kernel
theorem dd_X3_scrape_22 : decode cX3_scrape 22 = .ok (.ireturn, 1) := by decide +kernel
theorem dd_X3_scrape_23 : decode cX3_scrape 23 = .ok (.aload_n 0, 1) := by decide +kernel
theorem dd_X3_scrape_24 : decode cX3_scrape 24 = .ok (.getfield 27, 3) := by decide +kernel
theorem dd_X3_scrape_27 : decode cX3_scrape 27 = .ok (.iload_n 2, 1) := by decide +kernel
theorem dd_X3_scrape_28 : decode cX3_scrape 28 = .ok (.aload_n 0, 1) := by decide +kernel
theorem dd_X3_scrape_29 : decode cX3_scrape 29 = .ok (.getfield 30, 3) := by decide +kernel
theorem dd_X3_scrape_32 : decode cX3_scrape 32 = .ok (.iastore, 1) := by decide +kernel
theorem dd_X3_scrape_33 : decode cX3_scrape 33 = .ok (.aload_n 0, 1) := by decide +kernel
theorem dd_X3_scrape_34 : decode cX3_scrape 34 = .ok (.getfield 30, 3) := by decide +kernel
theorem dd_X3_scrape_37 : decode cX3_scrape 37 = .ok (.aload_n 0, 1) := by decide +kernel
theorem dd_X3_scrape_38 : decode cX3_scrape 38 = .ok (.getfield 24, 3) := by decide +kernel
theorem dd_X3_scrape_41 : decode cX3_scrape 41 = .ok (.iload_n 2, 1) := by decide +kernel
theorem dd_X3_scrape_42 : decode cX3_scrape 42 = .ok (.iaload, 1) := by decide +kernel
theorem dd_X3_scrape_43 : decode cX3_scrape 43 = .ok (.isub, 1) := by decide +kernel
theorem dd_X3_scrape_44 : decode cX3_scrape 44 = .ok (.ireturn, 1) := by decide +kernel
def tb_X3_scrape (kd : Nat → Nat) (K : zK) : zTab := [(0, zt_aload 0 1), (1, zt_iload 1 2), (2, zt_call kd sp_X3_topmost 2 5), (5, zt_istore 2 6), (6, zt_iload 2 7), (7, zt_const (zI (-1)) 8), (8, zt_icmp (fun x y => x = y) (fun x y => ¬ x = y) 21 11), (11, zt_aload 0 12), (12, zt_getR kd 3 0 6 15), (15, zt_iload 2 16), (16, zt_ald kd 0 17), (17, zt_const (zI (-1)) 18), (18, zt_icmp (fun x y => x = y) (fun x y => ¬ x = y) 23 21), (21, zt_const (zI (-1)) 22), (22, zt_iret K), (23, zt_aload 0 24), (24, zt_getR kd 3 0 6 27), (27, zt_iload 2 28), (28, zt_aload 0 29), (29, zt_getI kd 3 6 32), (32, zt_ast kd 0 33), (33, zt_aload 0 34), (34, zt_getI kd 3 6 37), (37, zt_aload 0 38), (38, zt_getR kd 3 0 5 41), (41, zt_iload 2 42), (42, zt_ald kd 0 43), (43, zt_bin (fun x y => x - y) 44), (44, zt_iret K)]
set_option maxRecDepth 20000 in
theorem tk_X3_scrape (d : Nat) (h_X3_topmost : zMS 2 yX3_topmost cX3_topmost 2 (some .int) sp_X3_topmost) : zTrue RX3 cX3_scrape 3 (some .int) (d + 3) (fun kd K => tb_X3_scrape kd K) := by
  intro p l e R s m args below meth c D cy A ad bl Qm K C0 hr hlocks hQ
  obtain ⟨hx, hb, hml, hown, hts, hK, hD, hA0, hN, hE, ⟨hR1, hR2⟩, hc1, hc2⟩ := id C0
  unfold tb_X3_scrape
  refine List.forall_mem_cons.mpr ⟨ok_aload_n hx hb rfl dd_X3_scrape_0, ?_⟩
  refine List.forall_mem_cons.mpr ⟨ok_iload_n hx hb rfl dd_X3_scrape_1, ?_⟩
  refine List.forall_mem_cons.mpr ⟨ok_callV (n := 1) zc_X3 rv_X3_topmost C0 (h_X3_topmost (d + 2) (by omega)) (by decide) wd_336 wd_333 wd_335 wd_5 wd_102 ⟨rfl, by decide +kernel, by decide +kernel, by decide +kernel⟩ dd_X3_scrape_2, ?_⟩
  refine List.forall_mem_cons.mpr ⟨ok_istore_n hx hb rfl dd_X3_scrape_5, ?_⟩
  refine List.forall_mem_cons.mpr ⟨ok_iload_n hx hb rfl dd_X3_scrape_6, ?_⟩
  refine List.forall_mem_cons.mpr ⟨ok_iconst hx hb dd_X3_scrape_7 (by decide), ?_⟩
  refine List.forall_mem_cons.mpr ⟨ok_icmp_eq hx hb dd_X3_scrape_8 (by decide), ?_⟩
  refine List.forall_mem_cons.mpr ⟨ok_aload_n hx hb rfl dd_X3_scrape_11, ?_⟩
  refine List.forall_mem_cons.mpr ⟨ok_getR (j := 5) hx hb hts zi_X3 hown hK zc_X3 (by decide) rfl (fun t fl h => by cases h; rfl) (hts _ wd_142) dd_X3_scrape_12, ?_⟩
  refine List.forall_mem_cons.mpr ⟨ok_iload_n hx hb rfl dd_X3_scrape_15, ?_⟩
  refine List.forall_mem_cons.mpr ⟨ok_ald (ty := 0) rfl hx hb hK (Or.inl ⟨rfl, rfl, dd_X3_scrape_16⟩), ?_⟩
  refine List.forall_mem_cons.mpr ⟨ok_iconst hx hb dd_X3_scrape_17 (by decide), ?_⟩
  refine List.forall_mem_cons.mpr ⟨ok_icmp_eq hx hb dd_X3_scrape_18 (by decide), ?_⟩
  refine List.forall_mem_cons.mpr ⟨ok_iconst hx hb dd_X3_scrape_21 (by decide), ?_⟩
  refine List.forall_mem_cons.mpr ⟨ok_iret hx hb hr hlocks hQ dd_X3_scrape_22, ?_⟩
  refine List.forall_mem_cons.mpr ⟨ok_aload_n hx hb rfl dd_X3_scrape_23, ?_⟩
  refine List.forall_mem_cons.mpr ⟨ok_getR (j := 5) hx hb hts zi_X3 hown hK zc_X3 (by decide) rfl (fun t fl h => by cases h; rfl) (hts _ wd_142) dd_X3_scrape_24, ?_⟩
  refine List.forall_mem_cons.mpr ⟨ok_iload_n hx hb rfl dd_X3_scrape_27, ?_⟩
  refine List.forall_mem_cons.mpr ⟨ok_aload_n hx hb rfl dd_X3_scrape_28, ?_⟩
  refine List.forall_mem_cons.mpr ⟨ok_getI (j := 6) hx hb hts zi_X3 hown hK zc_X3 (by decide) rfl (fun t fl h => by cases h; rfl) (hts _ wd_143) dd_X3_scrape_29, ?_⟩
  refine List.forall_mem_cons.mpr ⟨ok_ast (ty := 0) rfl hx hb hK hD (Or.inl ⟨rfl, rfl, dd_X3_scrape_32⟩), ?_⟩
  refine List.forall_mem_cons.mpr ⟨ok_aload_n hx hb rfl dd_X3_scrape_33, ?_⟩
  refine List.forall_mem_cons.mpr ⟨ok_getI (j := 6) hx hb hts zi_X3 hown hK zc_X3 (by decide) rfl (fun t fl h => by cases h; rfl) (hts _ wd_143) dd_X3_scrape_34, ?_⟩
  refine List.forall_mem_cons.mpr ⟨ok_aload_n hx hb rfl dd_X3_scrape_37, ?_⟩
  refine List.forall_mem_cons.mpr ⟨ok_getR (j := 4) hx hb hts zi_X3 hown hK zc_X3 (by decide) rfl (fun t fl h => by cases h; rfl) (hts _ wd_141) dd_X3_scrape_38, ?_⟩
  refine List.forall_mem_cons.mpr ⟨ok_iload_n hx hb rfl dd_X3_scrape_41, ?_⟩
  refine List.forall_mem_cons.mpr ⟨ok_ald (ty := 0) rfl hx hb hK (Or.inl ⟨rfl, rfl, dd_X3_scrape_42⟩), ?_⟩
  refine List.forall_mem_cons.mpr ⟨ok_isub hx hb dd_X3_scrape_43, ?_⟩
  refine List.forall_mem_cons.mpr ⟨ok_iret hx hb hr hlocks hQ dd_X3_scrape_44, ?_⟩
  exact fun _ h => absurd h List.not_mem_nil
set_option maxRecDepth 100000 in
theorem vc_X3_scrape_0 {kd : Nat → Nat} {K : zK} {X : zX} (hX : ∀ (n pc : Nat) (ls : zLS) (st : List zV) (M : zM), zrun (tb_X3_scrape kd K) [] n X pc ls st M → X pc ls st M) {t : Nat} {c : Int32} {M : zM} (hk0 : kd t = 3) (h : ∃ a1 : Sk, (RpS (M.1 t) a1) ∧ ∀ v1 : Int32, (v1.toInt = if (sk_top a1 c.toInt).isSome then 4 * c.toInt + sk_len a1 c.toInt - 1 else -1) → ((v1 = (-1 : Int32)) → K (some (zI ((-1 : Int32)))) M) ∧ ((¬ v1 = (-1 : Int32)) → (zin (kd t) 6 0 v1) ∧ (((M.1 t 6 (v1).toNatClampNeg) = (-1 : Int32)) → (zin (kd t) 6 0 v1) ∧ ∀ M2 : zM, (M2 = zmw M t 6 (upd (M.1 t 6) (v1).toNatClampNeg (M.1 t 0 6))) → (zin (kd t) 5 0 v1) ∧ K (some (zI ((M2.1 t 0 6) - (M2.1 t 5 (v1).toNatClampNeg)))) M2) ∧ ((¬ (M.1 t 6 (v1).toNatClampNeg) = (-1 : Int32)) → K (some (zI ((-1 : Int32)))) M))) : X 0 [some (zR t 0), some (zI (c)), none] [] M := hX 28 0 _ [] M (show (kd t = 3) ∧ ∃ a1 : Sk, (RpS (M.1 t) a1) ∧ ∀ v1 : Int32, (v1.toInt = if (sk_top a1 c.toInt).isSome then 4 * c.toInt + sk_len a1 c.toInt - 1 else -1) → ((v1 = (-1 : Int32)) → K (some (zI ((-1 : Int32)))) M) ∧ ((¬ v1 = (-1 : Int32)) → (kd t = 3) ∧ (zin (kd t) 6 0 v1) ∧ (((M.1 t 6 (v1).toNatClampNeg) = (-1 : Int32)) → (kd t = 3) ∧ (kd t = 3) ∧ (zin (kd t) 6 0 v1) ∧ ∀ M2 : zM, (M2 = zmw M t 6 (upd (M.1 t 6) (v1).toNatClampNeg (M.1 t 0 6))) → (kd t = 3) ∧ (kd t = 3) ∧ (zin (kd t) 5 0 v1) ∧ K (some (zI ((M2.1 t 0 6) - (M2.1 t 5 (v1).toNatClampNeg)))) M2) ∧ ((¬ (M.1 t 6 (v1).toNatClampNeg) = (-1 : Int32)) → K (some (zI ((-1 : Int32)))) M)) from ⟨hk0, h.elim (fun a1 h => ⟨a1, ⟨h.1, have h := h.2; fun v1 => have h := h v1; fun q => have h := h q; ⟨fun q => have h := h.1 q; h, fun q => have h := h.2 q; ⟨hk0, ⟨h.1, have h := h.2; ⟨fun q => have h := h.1 q; ⟨hk0, ⟨hk0, ⟨h.1, have h := h.2; fun M2 => have h := h M2; fun q => have h := h q; ⟨hk0, ⟨hk0, ⟨h.1, have h := h.2; h⟩⟩⟩⟩⟩⟩, fun q => have h := h.2 q; h⟩⟩⟩⟩⟩⟩)⟩)
def sp_X3_pass : zSpec := fun kd as M K => match as with
  | [.inr (.inr (.inl (t, 0))), .inl n] => (kd t = 3) ∧ ∃ a : Sk, (RpS (M.1 t) a) ∧ (0 ≤ n.toInt ∧ n.toInt ≤ 99) ∧ ∀ S' : zB, (RpS S' (sk_yr a n.toInt)) → ∀ M' : zM, (M' = zbs M t S') → K none M'
  | _ => False
theorem rv_X3_pass : zrv sp_X3_pass 3 1 := by
  intro kd as M K h
  unfold sp_X3_pass at h
  split at h
  · exact ⟨_, _, rfl, h.1⟩
  · exact h.elim
theorem dd_X3_pass_0 : decode cX3_pass 0 = .ok (.aload_n 0, 1) := by decide +kernel
theorem dd_X3_pass_1 : decode cX3_pass 1 = .ok (.sipush 999, 3) := by decide +kernel
theorem dd_X3_pass_4 : decode cX3_pass 4 = .ok (.aload_n 0, 1) := by decide +kernel
theorem dd_X3_pass_5 : decode cX3_pass 5 = .ok (.getfield 30, 3) := by decide +kernel
theorem dd_X3_pass_8 : decode cX3_pass 8 = .ok (.iload_n 1, 1) := by decide +kernel
theorem dd_X3_pass_9 : decode cX3_pass 9 = .ok (.iadd, 1) := by decide +kernel
theorem dd_X3_pass_10 : decode cX3_pass 10 = .ok (.invokestatic 52, 3) := by decide +kernel
theorem dd_X3_pass_13 : decode cX3_pass 13 = .ok (.putfield 30, 3) := by decide +kernel
theorem dd_X3_pass_16 : decode cX3_pass 16 = .ok (.return_, 1) := by decide +kernel
def tb_X3_pass (kd : Nat → Nat) (K : zK) : zTab := [(0, zt_aload 0 1), (1, zt_const (zI 999) 4), (4, zt_aload 0 5), (5, zt_getI kd 3 6 8), (8, zt_iload 1 9), (9, zt_bin (fun x y => x + y) 10), (10, zt_wbin (fun x y => if y < x then y else x) 13), (13, zt_putI kd 3 6 16), (16, zt_vret K)]
set_option maxRecDepth 20000 in
theorem tk_X3_pass (d : Nat)  : zTrue RX3 cX3_pass 2 none (d + 1) (fun kd K => tb_X3_pass kd K) := by
  intro p l e R s m args below meth c D cy A ad bl Qm K C0 hr hlocks hQ
  obtain ⟨hx, hb, hml, hown, hts, hK, hD, hA0, hN, hE, ⟨hR1, hR2⟩, hc1, hc2⟩ := id C0
  unfold tb_X3_pass
  refine List.forall_mem_cons.mpr ⟨ok_aload_n hx hb rfl dd_X3_pass_0, ?_⟩
  refine List.forall_mem_cons.mpr ⟨ok_sipush hx hb dd_X3_pass_1 (by decide), ?_⟩
  refine List.forall_mem_cons.mpr ⟨ok_aload_n hx hb rfl dd_X3_pass_4, ?_⟩
  refine List.forall_mem_cons.mpr ⟨ok_getI (j := 6) hx hb hts zi_X3 hown hK zc_X3 (by decide) rfl (fun t fl h => by cases h; rfl) (hts _ wd_143) dd_X3_pass_5, ?_⟩
  refine List.forall_mem_cons.mpr ⟨ok_iload_n hx hb rfl dd_X3_pass_8, ?_⟩
  refine List.forall_mem_cons.mpr ⟨ok_iadd hx hb dd_X3_pass_9, ?_⟩
  refine List.forall_mem_cons.mpr ⟨ok_mmin hx hb hml hown (hts _ wd_373) (hts _ wd_374) (hts _ wd_109) (hts _ wd_375) ⟨by omega, by omega⟩ ⟨hc1, hc2⟩ dd_X3_pass_10, ?_⟩
  refine List.forall_mem_cons.mpr ⟨ok_putI (j := 6) hx hb hts zi_X3 tyX3 tyX3_ok nmX3 hown hK hD zc_X3 (by decide) rfl rfl (by decide +kernel) (fun t fl h => by cases h; rfl) (hts _ wd_143) dd_X3_pass_13, ?_⟩
  refine List.forall_mem_cons.mpr ⟨ok_vret hx hb hr hlocks hQ dd_X3_pass_16, ?_⟩
  exact fun _ h => absurd h List.not_mem_nil
set_option maxRecDepth 100000 in
theorem vc_X3_pass_0 {kd : Nat → Nat} {K : zK} {X : zX} (hX : ∀ (n pc : Nat) (ls : zLS) (st : List zV) (M : zM), zrun (tb_X3_pass kd K) [] n X pc ls st M → X pc ls st M) {t : Nat} {n : Int32} {M : zM} (hk0 : kd t = 3) (h : ∀ M1 : zM, (M1 = zmw M t 0 (upd (M.1 t 0) 6 (if ((M.1 t 0 6) + n) < (999 : Int32) then ((M.1 t 0 6) + n) else (999 : Int32)))) → K none M1) : X 0 [some (zR t 0), some (zI (n))] [] M := hX 10 0 _ [] M (show (kd t = 3) ∧ (kd t = 3) ∧ ∀ M1 : zM, (M1 = zmw M t 0 (upd (M.1 t 0) 6 (if ((M.1 t 0 6) + n) < (999 : Int32) then ((M.1 t 0 6) + n) else (999 : Int32)))) → K none M1 from ⟨hk0, ⟨hk0, fun M1 => have h := h M1; fun q => have h := h q; h⟩⟩)
def sp_X3_canDo : zSpec := fun kd as M K => match as with
  | [.inr (.inr (.inl (t, 0))), .inl w] => (kd t = 3) ∧ ∃ a : Sk, (RpS (M.1 t) a) ∧ (0 ≤ w.toInt ∧ w.toInt < 20) ∧ ∀ v : Int32, (v = zp (sk_may a w.toInt = true)) → K (some (.inl v)) M
  | _ => False
theorem rv_X3_canDo : zrv sp_X3_canDo 3 1 := by
  intro kd as M K h
  unfold sp_X3_canDo at h
  split at h
  · exact ⟨_, _, rfl, h.1⟩
  · exact h.elim
theorem dd_X3_canDo_0 : decode cX3_canDo 0 = .ok (.iload_n 1, 1) := by decide +kernel
theorem dd_X3_canDo_1 : decode cX3_canDo 1 = .ok (.bipush 10, 2) := by decide +kernel
theorem dd_X3_canDo_3 : decode cX3_canDo 3 = .ok (.if_icmp .ge 11, 3) := by decide +kernel
theorem dd_X3_canDo_6 : decode cX3_canDo 6 = .ok (.aload_n 0, 1) := by decide +kernel
theorem dd_X3_canDo_7 : decode cX3_canDo 7 = .ok (.iload_n 1, 1) := by decide +kernel
theorem dd_X3_canDo_8 : decode cX3_canDo 8 = .ok (.invokevirtual 57, 3) := by decide +kernel
theorem dd_X3_canDo_11 : decode cX3_canDo 11 = .ok (.goto 11, 3) := by decide +kernel
theorem dd_X3_canDo_14 : decode cX3_canDo 14 = .ok (.aload_n 0, 1) := by decide +kernel
theorem dd_X3_canDo_15 : decode cX3_canDo 15 = .ok (.iload_n 1, 1) := by decide +kernel
theorem dd_X3_canDo_16 : decode cX3_canDo 16 = .ok (.bipush 10, 2) := by decide +kernel
theorem dd_X3_canDo_18 : decode cX3_canDo 18 = .ok (.isub, 1) := by decide +kernel
theorem dd_X3_canDo_19 : decode cX3_canDo 19 = .ok (.invokevirtual 60, 3) := by decide +kernel
theorem dd_X3_canDo_22 : decode cX3_canDo 22 = .ok (.ireturn, 1) := by decide +kernel
def tb_X3_canDo (kd : Nat → Nat) (K : zK) : zTab := [(0, zt_iload 1 1), (1, zt_const (zI 10) 3), (3, zt_icmp (fun x y => y ≤ x) (fun x y => ¬ y ≤ x) 14 6), (6, zt_aload 0 7), (7, zt_iload 1 8), (8, zt_call kd sp_X3_canScrape 2 11), (11, zt_goto 22), (14, zt_aload 0 15), (15, zt_iload 1 16), (16, zt_const (zI 10) 18), (18, zt_bin (fun x y => x - y) 19), (19, zt_call kd sp_X3_canCover 2 22), (22, zt_zret K)]
set_option maxRecDepth 20000 in
theorem tk_X3_canDo (d : Nat) (h_X3_canScrape : zMS 3 yX3_canScrape cX3_canScrape 3 (some .boolean) sp_X3_canScrape) (h_X3_canCover : zMS 3 yX3_canCover cX3_canCover 3 (some .boolean) sp_X3_canCover) : zTrue RX3 cX3_canDo 2 (some .boolean) (d + 4) (fun kd K => tb_X3_canDo kd K) := by
  intro p l e R s m args below meth c D cy A ad bl Qm K C0 hr hlocks hQ
  obtain ⟨hx, hb, hml, hown, hts, hK, hD, hA0, hN, hE, ⟨hR1, hR2⟩, hc1, hc2⟩ := id C0
  unfold tb_X3_canDo
  refine List.forall_mem_cons.mpr ⟨ok_iload_n hx hb rfl dd_X3_canDo_0, ?_⟩
  refine List.forall_mem_cons.mpr ⟨ok_bipush hx hb dd_X3_canDo_1 (by decide), ?_⟩
  refine List.forall_mem_cons.mpr ⟨ok_icmp_ge hx hb dd_X3_canDo_3 (by decide), ?_⟩
  refine List.forall_mem_cons.mpr ⟨ok_aload_n hx hb rfl dd_X3_canDo_6, ?_⟩
  refine List.forall_mem_cons.mpr ⟨ok_iload_n hx hb rfl dd_X3_canDo_7, ?_⟩
  refine List.forall_mem_cons.mpr ⟨ok_callV (n := 1) zc_X3 rv_X3_canScrape C0 (h_X3_canScrape (d + 3) (by omega)) (by decide) wd_332 wd_654 wd_331 wd_4 wd_102 ⟨rfl, by decide +kernel, by decide +kernel, by decide +kernel⟩ dd_X3_canDo_8, ?_⟩
  refine List.forall_mem_cons.mpr ⟨ok_goto hx hb dd_X3_canDo_11 (by decide), ?_⟩
  refine List.forall_mem_cons.mpr ⟨ok_aload_n hx hb rfl dd_X3_canDo_14, ?_⟩
  refine List.forall_mem_cons.mpr ⟨ok_iload_n hx hb rfl dd_X3_canDo_15, ?_⟩
  refine List.forall_mem_cons.mpr ⟨ok_bipush hx hb dd_X3_canDo_16 (by decide), ?_⟩
  refine List.forall_mem_cons.mpr ⟨ok_isub hx hb dd_X3_canDo_18, ?_⟩
  refine List.forall_mem_cons.mpr ⟨ok_callV (n := 1) zc_X3 rv_X3_canCover C0 (h_X3_canCover (d + 3) (by omega)) (by decide) wd_345 wd_655 wd_344 wd_7 wd_102 ⟨rfl, by decide +kernel, by decide +kernel, by decide +kernel⟩ dd_X3_canDo_19, ?_⟩
  refine List.forall_mem_cons.mpr ⟨ok_zret hx hb hr hlocks hQ dd_X3_canDo_22, ?_⟩
  exact fun _ h => absurd h List.not_mem_nil
set_option maxRecDepth 100000 in
theorem vc_X3_canDo_0 {kd : Nat → Nat} {K : zK} {X : zX} (hX : ∀ (n pc : Nat) (ls : zLS) (st : List zV) (M : zM), zrun (tb_X3_canDo kd K) [] n X pc ls st M → X pc ls st M) {t : Nat} {w : Int32} {M : zM} (hk0 : kd t = 3) (h : (((10 : Int32) ≤ w) → ∃ a1 : Sk, (RpS (M.1 t) a1) ∧ ∀ v1 : Int32, (v1 = zp (sk_canW a1 (w - (10 : Int32)).toInt = true)) → (v1 = 0 ∨ v1 = 1) ∧ K (some (zI (v1))) M) ∧ ((¬ (10 : Int32) ≤ w) → ∃ a2 : Sk, (RpS (M.1 t) a2) ∧ ∀ v2 : Int32, (v2 = zp (sk_canR a2 w.toInt = true)) → (v2 = 0 ∨ v2 = 1) ∧ K (some (zI (v2))) M)) : X 0 [some (zR t 0), some (zI (w))] [] M := hX 10 0 _ [] M (show (((10 : Int32) ≤ w) → (kd t = 3) ∧ ∃ a1 : Sk, (RpS (M.1 t) a1) ∧ ∀ v1 : Int32, (v1 = zp (sk_canW a1 (w - (10 : Int32)).toInt = true)) → (v1 = 0 ∨ v1 = 1) ∧ K (some (zI (v1))) M) ∧ ((¬ (10 : Int32) ≤ w) → (kd t = 3) ∧ ∃ a2 : Sk, (RpS (M.1 t) a2) ∧ ∀ v2 : Int32, (v2 = zp (sk_canR a2 w.toInt = true)) → (v2 = 0 ∨ v2 = 1) ∧ K (some (zI (v2))) M) from ⟨fun q => have h := h.1 q; ⟨hk0, h.elim (fun a1 h => ⟨a1, ⟨h.1, have h := h.2; fun v1 => have h := h v1; fun q => have h := h q; ⟨h.1, have h := h.2; h⟩⟩⟩)⟩, fun q => have h := h.2 q; ⟨hk0, h.elim (fun a2 h => ⟨a2, ⟨h.1, have h := h.2; fun v2 => have h := h v2; fun q => have h := h q; ⟨h.1, have h := h.2; h⟩⟩⟩)⟩⟩)
def sp_X3_act : zSpec := fun kd as M K => match as with
  | [.inr (.inr (.inl (t, 0))), .inl w, .inl g, .inl e] => (kd t = 3) ∧ ∃ a : Sk, (RpS (M.1 t) a) ∧ (0 ≤ w.toInt ∧ w.toInt < 20) ∧ (sk_may a w.toInt = true) ∧ (0 ≤ g.toInt ∧ g.toInt ≤ 4) ∧ (e.toInt = 0 ∨ e.toInt = 1) ∧ ∀ S' : zB, (RpS S' (sk_do a w.toInt g.toInt e.toInt)) → ∀ M' : zM, (M' = zbs M t S') → K none M'
  | _ => False
theorem rv_X3_act : zrv sp_X3_act 3 3 := by
  intro kd as M K h
  unfold sp_X3_act at h
  split at h
  · exact ⟨_, _, rfl, h.1⟩
  · exact h.elim
theorem dd_X3_act_0 : decode cX3_act 0 = .ok (.iload_n 1, 1) := by decide +kernel
theorem dd_X3_act_1 : decode cX3_act 1 = .ok (.bipush 10, 2) := by decide +kernel
theorem dd_X3_act_3 : decode cX3_act 3 = .ok (.if_icmp .ge 12, 3) := by decide +kernel
theorem dd_X3_act_6 : decode cX3_act 6 = .ok (.aload_n 0, 1) := by decide +kernel
theorem dd_X3_act_7 : decode cX3_act 7 = .ok (.iload_n 1, 1) := by decide +kernel
theorem dd_X3_act_8 : decode cX3_act 8 = .ok (.invokevirtual 63, 3) := by decide +kernel
theorem dd_X3_act_11 : decode cX3_act 11 = .ok (.pop, 1) := by decide +kernel
theorem dd_X3_act_12 : decode cX3_act 12 = .ok (.goto 15, 3) := by decide +kernel
theorem dd_X3_act_15 : decode cX3_act 15 = .ok (.aload_n 0, 1) := by decide +kernel
theorem dd_X3_act_16 : decode cX3_act 16 = .ok (.iload_n 1, 1) := by decide +kernel
theorem dd_X3_act_17 : decode cX3_act 17 = .ok (.bipush 10, 2) := by decide +kernel
theorem dd_X3_act_19 : decode cX3_act 19 = .ok (.isub, 1) := by decide +kernel
theorem dd_X3_act_20 : decode cX3_act 20 = .ok (.iconst 0, 1) := by decide +kernel
theorem dd_X3_act_21 : decode cX3_act 21 = .ok (.iload_n 2, 1) := by decide +kernel
theorem dd_X3_act_22 : decode cX3_act 22 = .ok (.iload_n 3, 1) := by decide +kernel
theorem dd_X3_act_23 : decode cX3_act 23 = .ok (.invokevirtual 66, 3) := by decide +kernel
theorem dd_X3_act_26 : decode cX3_act 26 = .ok (.pop, 1) := by decide +kernel
theorem dd_X3_act_27 : decode cX3_act 27 = .ok (.return_, 1) := by decide +kernel
def tb_X3_act (kd : Nat → Nat) (K : zK) : zTab := [(0, zt_iload 1 1), (1, zt_const (zI 10) 3), (3, zt_icmp (fun x y => y ≤ x) (fun x y => ¬ y ≤ x) 15 6), (6, zt_aload 0 7), (7, zt_iload 1 8), (8, zt_call kd sp_X3_scrape 2 11), (11, zt_pop 12), (12, zt_goto 27), (15, zt_aload 0 16), (16, zt_iload 1 17), (17, zt_const (zI 10) 19), (19, zt_bin (fun x y => x - y) 20), (20, zt_const (zI 0) 21), (21, zt_iload 2 22), (22, zt_iload 3 23), (23, zt_call kd sp_X3_cover 5 26), (26, zt_pop 27), (27, zt_vret K)]
set_option maxRecDepth 20000 in
theorem tk_X3_act (d : Nat) (h_X3_scrape : zMS 3 yX3_scrape cX3_scrape 3 (some .int) sp_X3_scrape) (h_X3_cover : zMS 2 yX3_cover cX3_cover 7 (some .int) sp_X3_cover) : zTrue RX3 cX3_act 4 none (d + 4) (fun kd K => tb_X3_act kd K) := by
  intro p l e R s m args below meth c D cy A ad bl Qm K C0 hr hlocks hQ
  obtain ⟨hx, hb, hml, hown, hts, hK, hD, hA0, hN, hE, ⟨hR1, hR2⟩, hc1, hc2⟩ := id C0
  unfold tb_X3_act
  refine List.forall_mem_cons.mpr ⟨ok_iload_n hx hb rfl dd_X3_act_0, ?_⟩
  refine List.forall_mem_cons.mpr ⟨ok_bipush hx hb dd_X3_act_1 (by decide), ?_⟩
  refine List.forall_mem_cons.mpr ⟨ok_icmp_ge hx hb dd_X3_act_3 (by decide), ?_⟩
  refine List.forall_mem_cons.mpr ⟨ok_aload_n hx hb rfl dd_X3_act_6, ?_⟩
  refine List.forall_mem_cons.mpr ⟨ok_iload_n hx hb rfl dd_X3_act_7, ?_⟩
  refine List.forall_mem_cons.mpr ⟨ok_callV (n := 1) zc_X3 rv_X3_scrape C0 (h_X3_scrape (d + 3) (by omega)) (by decide) wd_364 wd_666 wd_363 wd_10 wd_102 ⟨rfl, by decide +kernel, by decide +kernel, by decide +kernel⟩ dd_X3_act_8, ?_⟩
  refine List.forall_mem_cons.mpr ⟨ok_pop hx hb dd_X3_act_11, ?_⟩
  refine List.forall_mem_cons.mpr ⟨ok_goto hx hb dd_X3_act_12 (by decide), ?_⟩
  refine List.forall_mem_cons.mpr ⟨ok_aload_n hx hb rfl dd_X3_act_15, ?_⟩
  refine List.forall_mem_cons.mpr ⟨ok_iload_n hx hb rfl dd_X3_act_16, ?_⟩
  refine List.forall_mem_cons.mpr ⟨ok_bipush hx hb dd_X3_act_17 (by decide), ?_⟩
  refine List.forall_mem_cons.mpr ⟨ok_isub hx hb dd_X3_act_19, ?_⟩
  refine List.forall_mem_cons.mpr ⟨ok_iconst hx hb dd_X3_act_20 (by decide), ?_⟩
  refine List.forall_mem_cons.mpr ⟨ok_iload_n hx hb rfl dd_X3_act_21, ?_⟩
  refine List.forall_mem_cons.mpr ⟨ok_iload_n hx hb rfl dd_X3_act_22, ?_⟩
  refine List.forall_mem_cons.mpr ⟨ok_callV (n := 4) zc_X3 rv_X3_cover C0 (h_X3_cover (d + 3) (by omega)) (by decide) wd_356 wd_667 wd_355 wd_9 wd_102 ⟨rfl, by decide +kernel, by decide +kernel, by decide +kernel⟩ dd_X3_act_23, ?_⟩
  refine List.forall_mem_cons.mpr ⟨ok_pop hx hb dd_X3_act_26, ?_⟩
  refine List.forall_mem_cons.mpr ⟨ok_vret hx hb hr hlocks hQ dd_X3_act_27, ?_⟩
  exact fun _ h => absurd h List.not_mem_nil
set_option maxRecDepth 100000 in
theorem vc_X3_act_0 {kd : Nat → Nat} {K : zK} {X : zX} (hX : ∀ (n pc : Nat) (ls : zLS) (st : List zV) (M : zM), zrun (tb_X3_act kd K) [] n X pc ls st M → X pc ls st M) {t : Nat} {w : Int32} {g : Int32} {e : Int32} {M : zM} (hk0 : kd t = 3) (h : (((10 : Int32) ≤ w) → ∃ a1 : Sk, (RpS (M.1 t) a1) ∧ (0 ≤ (w - (10 : Int32)).toInt ∧ (w - (10 : Int32)).toInt < 6) ∧ (sk_canR a1 (w - (10 : Int32)).toInt = false) ∧ (0 ≤ (0 : Int32).toInt ∧ (0 : Int32).toInt ≤ 5) ∧ (0 ≤ g.toInt ∧ g.toInt ≤ 4) ∧ (e.toInt = 0 ∨ e.toInt = 1) ∧ ∀ v1 : Int32, (v1.toInt = if sk_len a1 (w - (10 : Int32)).toInt < 4 then sk_len a1 (w - (10 : Int32)).toInt else -1) → ∀ S1 : zB, (RpS S1 (sk_wr a1 (w - (10 : Int32)).toInt (0 : Int32).toInt g.toInt e.toInt)) → ∀ M1 : zM, (M1 = zbs M t S1) → K none M1) ∧ ((¬ (10 : Int32) ≤ w) → ∃ a2 : Sk, (RpS (M.1 t) a2) ∧ ∃ l2 : Ly, (sk_top a2 w.toInt = some l2) ∧ (l2.2.2.2.2 = -1) ∧ ∀ v2 : Int32, (v2.toInt = a2.2 - l2.2.2.2.1) → ∀ S2 : zB, (RpS S2 (sk_rub a2 w.toInt)) → ∀ M2 : zM, (M2 = zbs M t S2) → K none M2)) : X 0 [some (zR t 0), some (zI (w)), some (zI (g)), some (zI (e))] [] M := hX 14 0 _ [] M (show (((10 : Int32) ≤ w) → (kd t = 3) ∧ ∃ a1 : Sk, (RpS (M.1 t) a1) ∧ (0 ≤ (w - (10 : Int32)).toInt ∧ (w - (10 : Int32)).toInt < 6) ∧ (sk_canR a1 (w - (10 : Int32)).toInt = false) ∧ (0 ≤ (0 : Int32).toInt ∧ (0 : Int32).toInt ≤ 5) ∧ (0 ≤ g.toInt ∧ g.toInt ≤ 4) ∧ (e.toInt = 0 ∨ e.toInt = 1) ∧ ∀ v1 : Int32, (v1.toInt = if sk_len a1 (w - (10 : Int32)).toInt < 4 then sk_len a1 (w - (10 : Int32)).toInt else -1) → ∀ S1 : zB, (RpS S1 (sk_wr a1 (w - (10 : Int32)).toInt (0 : Int32).toInt g.toInt e.toInt)) → ∀ M1 : zM, (M1 = zbs M t S1) → K none M1) ∧ ((¬ (10 : Int32) ≤ w) → (kd t = 3) ∧ ∃ a2 : Sk, (RpS (M.1 t) a2) ∧ ∃ l2 : Ly, (sk_top a2 w.toInt = some l2) ∧ (l2.2.2.2.2 = -1) ∧ ∀ v2 : Int32, (v2.toInt = a2.2 - l2.2.2.2.1) → ∀ S2 : zB, (RpS S2 (sk_rub a2 w.toInt)) → ∀ M2 : zM, (M2 = zbs M t S2) → K none M2) from ⟨fun q => have h := h.1 q; ⟨hk0, h.elim (fun a1 h => ⟨a1, ⟨h.1, have h := h.2; ⟨h.1, have h := h.2; ⟨h.1, have h := h.2; ⟨h.1, have h := h.2; ⟨h.1, have h := h.2; ⟨h.1, have h := h.2; fun v1 => have h := h v1; fun q => have h := h q; fun S1 => have h := h S1; fun q => have h := h q; fun M1 => have h := h M1; fun q => have h := h q; h⟩⟩⟩⟩⟩⟩⟩)⟩, fun q => have h := h.2 q; ⟨hk0, h.elim (fun a2 h => ⟨a2, ⟨h.1, have h := h.2; h.elim (fun l2 h => ⟨l2, ⟨h.1, have h := h.2; ⟨h.1, have h := h.2; fun v2 => have h := h v2; fun q => have h := h q; fun S2 => have h := h S2; fun q => have h := h q; fun M2 => have h := h M2; fun q => have h := h q; h⟩⟩⟩)⟩⟩)⟩⟩)
def sp_X3_takeBack : zSpec := fun kd as M K => match as with
  | [.inr (.inr (.inl (t, 0))), .inl w] => (kd t = 3) ∧ ∃ a : Sk, (RpS (M.1 t) a) ∧ ∃ b : Sk, (okSk b) ∧ (0 ≤ w.toInt ∧ w.toInt < 20) ∧ (sk_aft b w.toInt a) ∧ ∀ S' : zB, (RpS S' (b)) → ∀ M' : zM, (M' = zbs M t S') → K none M'
  | _ => False
theorem rv_X3_takeBack : zrv sp_X3_takeBack 3 1 := by
  intro kd as M K h
  unfold sp_X3_takeBack at h
  split at h
  · exact ⟨_, _, rfl, h.1⟩
  · exact h.elim
theorem dd_X3_takeBack_0 : decode cX3_takeBack 0 = .ok (.iload_n 1, 1) := by decide +kernel
theorem dd_X3_takeBack_1 : decode cX3_takeBack 1 = .ok (.invokestatic 70, 3) := by decide +kernel
theorem dd_X3_takeBack_4 : decode cX3_takeBack 4 = .ok (.istore_n 2, 1) := by decide +kernel
theorem dd_X3_takeBack_5 : decode cX3_takeBack 5 = .ok (.aload_n 0, 1) := by decide +kernel
theorem dd_X3_takeBack_6 : decode cX3_takeBack 6 = .ok (.iload_n 2, 1) := by decide +kernel
theorem dd_X3_takeBack_7 : decode cX3_takeBack 7 = .ok (.invokevirtual 48, 3) := by decide +kernel
theorem dd_X3_takeBack_10 : decode cX3_takeBack 10 = .ok (.istore_n 3, 1) := by decide +kernel
theorem dd_X3_takeBack_11 : decode cX3_takeBack 11 = .ok (.iload_n 3, 1) := by decide +kernel
theorem dd_X3_takeBack_12 : decode cX3_takeBack 12 = .ok (.iconst (-1), 1) := by decide +kernel
theorem dd_X3_takeBack_13 : decode cX3_takeBack 13 = .ok (.if_icmp .ne 4, 3) := by decide +kernel
theorem dd_X3_takeBack_16 : decode cX3_takeBack 16 = .ok (.return_, 1) := by decide +kernel
theorem dd_X3_takeBack_17 : decode cX3_takeBack 17 = .ok (.iload_n 1, 1) := by decide +kernel
theorem dd_X3_takeBack_18 : decode cX3_takeBack 18 = .ok (.bipush 10, 2) := by decide +kernel
theorem dd_X3_takeBack_20 : decode cX3_takeBack 20 = .ok (.if_icmp .ge 13, 3) := by decide +kernel
theorem dd_X3_takeBack_23 : decode cX3_takeBack 23 = .ok (.aload_n 0, 1) := by decide +kernel
theorem dd_X3_takeBack_24 : decode cX3_takeBack 24 = .ok (.getfield 27, 3) := by decide +kernel
theorem dd_X3_takeBack_27 : decode cX3_takeBack 27 = .ok (.iload_n 3, 1) := by decide +kernel
theorem dd_X3_takeBack_28 : decode cX3_takeBack 28 = .ok (.iconst (-1), 1) := by decide +kernel
theorem dd_X3_takeBack_29 : decode cX3_takeBack 29 = .ok (.iastore, 1) := by decide +kernel
theorem dd_X3_takeBack_30 : decode cX3_takeBack 30 = .ok (.goto 13, 3) := by decide +kernel
theorem dd_X3_takeBack_33 : decode cX3_takeBack 33 = .ok (.aload_n 0, 1) := by decide +kernel
theorem dd_X3_takeBack_34 : decode cX3_takeBack 34 = .ok (.getfield 9, 3) := by decide +kernel
theorem dd_X3_takeBack_37 : decode cX3_takeBack 37 = .ok (.iload_n 2, 1) := by decide +kernel
theorem dd_X3_takeBack_38 : decode cX3_takeBack 38 = .ok (.dup2, 1) := by decide +kernel
theorem dd_X3_takeBack_39 : decode cX3_takeBack 39 = .ok (.iaload, 1) := by decide +kernel
theorem dd_X3_takeBack_40 : decode cX3_takeBack 40 = .ok (.iconst 1, 1) := by decide +kernel
theorem dd_X3_takeBack_41 : decode cX3_takeBack 41 = .ok (.isub, 1) := by decide +kernel
theorem dd_X3_takeBack_42 : decode cX3_takeBack 42 = .ok (.iastore, 1) := by decide +kernel
theorem dd_X3_takeBack_43 : decode cX3_takeBack 43 = .ok (.return_, 1) := by decide +kernel
def tb_X3_takeBack (kd : Nat → Nat) (K : zK) : zTab := [(0, zt_iload 1 1), (1, zt_call kd sp_X7_cellOf 1 4), (4, zt_istore 2 5), (5, zt_aload 0 6), (6, zt_iload 2 7), (7, zt_call kd sp_X3_topmost 2 10), (10, zt_istore 3 11), (11, zt_iload 3 12), (12, zt_const (zI (-1)) 13), (13, zt_icmp (fun x y => ¬ x = y) (fun x y => x = y) 17 16), (16, zt_vret K), (17, zt_iload 1 18), (18, zt_const (zI 10) 20), (20, zt_icmp (fun x y => y ≤ x) (fun x y => ¬ y ≤ x) 33 23), (23, zt_aload 0 24), (24, zt_getR kd 3 0 6 27), (27, zt_iload 3 28), (28, zt_const (zI (-1)) 29), (29, zt_ast kd 0 30), (30, zt_goto 43), (33, zt_aload 0 34), (34, zt_getR kd 3 0 1 37), (37, zt_iload 2 38), (38, zt_dup2 39), (39, zt_ald kd 0 40), (40, zt_const (zI 1) 41), (41, zt_bin (fun x y => x - y) 42), (42, zt_ast kd 0 43), (43, zt_vret K)]
set_option maxRecDepth 20000 in
theorem tk_X3_takeBack (d : Nat) (h_X7_cellOf : zMS 1 yX7_cellOf cX7_cellOf 1 (some .int) sp_X7_cellOf) (h_X3_topmost : zMS 2 yX3_topmost cX3_topmost 2 (some .int) sp_X3_topmost) : zTrue RX3 cX3_takeBack 4 none (d + 3) (fun kd K => tb_X3_takeBack kd K) := by
  intro p l e R s m args below meth c D cy A ad bl Qm K C0 hr hlocks hQ
  obtain ⟨hx, hb, hml, hown, hts, hK, hD, hA0, hN, hE, ⟨hR1, hR2⟩, hc1, hc2⟩ := id C0
  unfold tb_X3_takeBack
  refine List.forall_mem_cons.mpr ⟨ok_iload_n hx hb rfl dd_X3_takeBack_0, ?_⟩
  refine List.forall_mem_cons.mpr ⟨ok_callSN (n := 1) C0 (h_X7_cellOf (d + 2) (by omega)) (by decide) wd_390 nd_388 wd_389 wd_100 ⟨by decide +kernel, by decide +kernel, by decide +kernel⟩ dd_X3_takeBack_1, ?_⟩
  refine List.forall_mem_cons.mpr ⟨ok_istore_n hx hb rfl dd_X3_takeBack_4, ?_⟩
  refine List.forall_mem_cons.mpr ⟨ok_aload_n hx hb rfl dd_X3_takeBack_5, ?_⟩
  refine List.forall_mem_cons.mpr ⟨ok_iload_n hx hb rfl dd_X3_takeBack_6, ?_⟩
  refine List.forall_mem_cons.mpr ⟨ok_callV (n := 1) zc_X3 rv_X3_topmost C0 (h_X3_topmost (d + 2) (by omega)) (by decide) wd_336 wd_333 wd_335 wd_5 wd_102 ⟨rfl, by decide +kernel, by decide +kernel, by decide +kernel⟩ dd_X3_takeBack_7, ?_⟩
  refine List.forall_mem_cons.mpr ⟨ok_istore_n hx hb rfl dd_X3_takeBack_10, ?_⟩
  refine List.forall_mem_cons.mpr ⟨ok_iload_n hx hb rfl dd_X3_takeBack_11, ?_⟩
  refine List.forall_mem_cons.mpr ⟨ok_iconst hx hb dd_X3_takeBack_12 (by decide), ?_⟩
  refine List.forall_mem_cons.mpr ⟨ok_icmp_ne hx hb dd_X3_takeBack_13 (by decide), ?_⟩
  refine List.forall_mem_cons.mpr ⟨ok_vret hx hb hr hlocks hQ dd_X3_takeBack_16, ?_⟩
  refine List.forall_mem_cons.mpr ⟨ok_iload_n hx hb rfl dd_X3_takeBack_17, ?_⟩
  refine List.forall_mem_cons.mpr ⟨ok_bipush hx hb dd_X3_takeBack_18 (by decide), ?_⟩
  refine List.forall_mem_cons.mpr ⟨ok_icmp_ge hx hb dd_X3_takeBack_20 (by decide), ?_⟩
  refine List.forall_mem_cons.mpr ⟨ok_aload_n hx hb rfl dd_X3_takeBack_23, ?_⟩
  refine List.forall_mem_cons.mpr ⟨ok_getR (j := 5) hx hb hts zi_X3 hown hK zc_X3 (by decide) rfl (fun t fl h => by cases h; rfl) (hts _ wd_142) dd_X3_takeBack_24, ?_⟩
  refine List.forall_mem_cons.mpr ⟨ok_iload_n hx hb rfl dd_X3_takeBack_27, ?_⟩
  refine List.forall_mem_cons.mpr ⟨ok_iconst hx hb dd_X3_takeBack_28 (by decide), ?_⟩
  refine List.forall_mem_cons.mpr ⟨ok_ast (ty := 0) rfl hx hb hK hD (Or.inl ⟨rfl, rfl, dd_X3_takeBack_29⟩), ?_⟩
  refine List.forall_mem_cons.mpr ⟨ok_goto hx hb dd_X3_takeBack_30 (by decide), ?_⟩
  refine List.forall_mem_cons.mpr ⟨ok_aload_n hx hb rfl dd_X3_takeBack_33, ?_⟩
  refine List.forall_mem_cons.mpr ⟨ok_getR (j := 0) hx hb hts zi_X3 hown hK zc_X3 (by decide) rfl (fun t fl h => by cases h; rfl) (hts _ wd_136) dd_X3_takeBack_34, ?_⟩
  refine List.forall_mem_cons.mpr ⟨ok_iload_n hx hb rfl dd_X3_takeBack_37, ?_⟩
  refine List.forall_mem_cons.mpr ⟨ok_dup2 hx hb dd_X3_takeBack_38, ?_⟩
  refine List.forall_mem_cons.mpr ⟨ok_ald (ty := 0) rfl hx hb hK (Or.inl ⟨rfl, rfl, dd_X3_takeBack_39⟩), ?_⟩
  refine List.forall_mem_cons.mpr ⟨ok_iconst hx hb dd_X3_takeBack_40 (by decide), ?_⟩
  refine List.forall_mem_cons.mpr ⟨ok_isub hx hb dd_X3_takeBack_41, ?_⟩
  refine List.forall_mem_cons.mpr ⟨ok_ast (ty := 0) rfl hx hb hK hD (Or.inl ⟨rfl, rfl, dd_X3_takeBack_42⟩), ?_⟩
  refine List.forall_mem_cons.mpr ⟨ok_vret hx hb hr hlocks hQ dd_X3_takeBack_43, ?_⟩
  exact fun _ h => absurd h List.not_mem_nil
set_option maxRecDepth 100000 in
theorem vc_X3_takeBack_0 {kd : Nat → Nat} {K : zK} {X : zX} (hX : ∀ (n pc : Nat) (ls : zLS) (st : List zV) (M : zM), zrun (tb_X3_takeBack kd K) [] n X pc ls st M → X pc ls st M) {t : Nat} {w : Int32} {M : zM} (hk0 : kd t = 3) (h : ∀ v1 : Int32, (v1 = if w < 10 then w else w - 10) → ∃ a2 : Sk, (RpS (M.1 t) a2) ∧ ∀ v2 : Int32, (v2.toInt = if (sk_top a2 v1.toInt).isSome then 4 * v1.toInt + sk_len a2 v1.toInt - 1 else -1) → ((¬ v2 = (-1 : Int32)) → (((10 : Int32) ≤ w) → (zin (kd t) 1 0 v1) ∧ (zin (kd t) 1 0 v1) ∧ ∀ M3 : zM, (M3 = zmw M t 1 (upd (M.1 t 1) (v1).toNatClampNeg ((M.1 t 1 (v1).toNatClampNeg) - (1 : Int32)))) → K none M3) ∧ ((¬ (10 : Int32) ≤ w) → (zin (kd t) 6 0 v2) ∧ ∀ M4 : zM, (M4 = zmw M t 6 (upd (M.1 t 6) (v2).toNatClampNeg (-1 : Int32))) → K none M4)) ∧ ((v2 = (-1 : Int32)) → K none M)) : X 0 [some (zR t 0), some (zI (w)), none, none] [] M := hX 23 0 _ [] M (show ∀ v1 : Int32, (v1 = if w < 10 then w else w - 10) → (kd t = 3) ∧ ∃ a2 : Sk, (RpS (M.1 t) a2) ∧ ∀ v2 : Int32, (v2.toInt = if (sk_top a2 v1.toInt).isSome then 4 * v1.toInt + sk_len a2 v1.toInt - 1 else -1) → ((¬ v2 = (-1 : Int32)) → (((10 : Int32) ≤ w) → (kd t = 3) ∧ (zin (kd t) 1 0 v1) ∧ (zin (kd t) 1 0 v1) ∧ ∀ M3 : zM, (M3 = zmw M t 1 (upd (M.1 t 1) (v1).toNatClampNeg ((M.1 t 1 (v1).toNatClampNeg) - (1 : Int32)))) → K none M3) ∧ ((¬ (10 : Int32) ≤ w) → (kd t = 3) ∧ (zin (kd t) 6 0 v2) ∧ ∀ M4 : zM, (M4 = zmw M t 6 (upd (M.1 t 6) (v2).toNatClampNeg (-1 : Int32))) → K none M4)) ∧ ((v2 = (-1 : Int32)) → K none M) from fun v1 => have h := h v1; fun q => have h := h q; ⟨hk0, h.elim (fun a2 h => ⟨a2, ⟨h.1, have h := h.2; fun v2 => have h := h v2; fun q => have h := h q; ⟨fun q => have h := h.1 q; ⟨fun q => have h := h.1 q; ⟨hk0, ⟨h.1, have h := h.2; ⟨h.1, have h := h.2; fun M3 => have h := h M3; fun q => have h := h q; h⟩⟩⟩, fun q => have h := h.2 q; ⟨hk0, ⟨h.1, have h := h.2; fun M4 => have h := h M4; fun q => have h := h q; h⟩⟩⟩, fun q => have h := h.2 q; h⟩⟩⟩)⟩)
def sp_X3_chance : zSpec := fun kd as M K => match as with
  | [.inr (.inr (.inl (t, 0))), .inl d] => (kd t = 3) ∧ ∃ a : Sk, (RpS (M.1 t) a) ∧ (0 ≤ d.toInt) ∧ ∀ S' : zB, (RpS S' (sk_ch a d.toInt)) → ∀ M' : zM, (M' = zbs M t S') → K none M'
  | _ => False
theorem rv_X3_chance : zrv sp_X3_chance 3 1 := by
  intro kd as M K h
  unfold sp_X3_chance at h
  split at h
  · exact ⟨_, _, rfl, h.1⟩
  · exact h.elim
theorem dd_X3_chance_0 : decode cX3_chance 0 = .ok (.iload_n 1, 1) := by decide +kernel
theorem dd_X3_chance_1 : decode cX3_chance 1 = .ok (.bipush 6, 2) := by decide +kernel
theorem dd_X3_chance_3 : decode cX3_chance 3 = .ok (.irem, 1) := by decide +kernel
theorem dd_X3_chance_4 : decode cX3_chance 4 = .ok (.istore_n 2, 1) := by decide +kernel
theorem dd_X3_chance_5 : decode cX3_chance 5 = .ok (.aload_n 0, 1) := by decide +kernel
theorem dd_X3_chance_6 : decode cX3_chance 6 = .ok (.iload_n 2, 1) := by decide +kernel
theorem dd_X3_chance_7 : decode cX3_chance 7 = .ok (.invokevirtual 57, 3) := by decide +kernel
theorem dd_X3_chance_10 : decode cX3_chance 10 = .ok (.ifCond .eq 12, 3) := by decide +kernel
theorem dd_X3_chance_13 : decode cX3_chance 13 = .ok (.aload_n 0, 1) := by decide +kernel
theorem dd_X3_chance_14 : decode cX3_chance 14 = .ok (.iload_n 2, 1) := by decide +kernel
theorem dd_X3_chance_15 : decode cX3_chance 15 = .ok (.invokevirtual 63, 3) := by decide +kernel
theorem dd_X3_chance_18 : decode cX3_chance 18 = .ok (.pop, 1) := by decide +kernel
theorem dd_X3_chance_19 : decode cX3_chance 19 = .ok (.goto 31, 3) := by decide +kernel
theorem dd_X3_chance_22 : decode cX3_chance 22 = .ok (.iload_n 1, 1) := by decide +kernel
theorem dd_X3_chance_23 : decode cX3_chance 23 = .ok (.bipush 7, 2) := by decide +kernel
theorem dd_X3_chance_25 : decode cX3_chance 25 = .ok (.irem, 1) := by decide +kernel
theorem dd_X3_chance_26 : decode cX3_chance 26 = .ok (.istore_n 3, 1) := by decide +kernel
theorem dd_X3_chance_27 : decode cX3_chance 27 = .ok (.aload_n 0, 1) := by decide +kernel
theorem dd_X3_chance_28 : decode cX3_chance 28 = .ok (.iload_n 2, 1) := by decide +kernel
theorem dd_X3_chance_29 : decode cX3_chance 29 = .ok (.iload_n 3, 1) := by decide +kernel
theorem dd_X3_chance_30 : decode cX3_chance 30 = .ok (.bipush 6, 2) := by decide +kernel
theorem dd_X3_chance_32 : decode cX3_chance 32 = .ok (.if_icmp .ne 7, 3) := by decide +kernel
theorem dd_X3_chance_35 : decode cX3_chance 35 = .ok (.iconst 0, 1) := by decide +kernel
theorem dd_X3_chance_36 : decode cX3_chance 36 = .ok (.goto 4, 3) := by decide +kernel
theorem dd_X3_chance_39 : decode cX3_chance 39 = .ok (.iload_n 3, 1) := by decide +kernel
theorem dd_X3_chance_40 : decode cX3_chance 40 = .ok (.iload_n 1, 1) := by decide +kernel
theorem dd_X3_chance_41 : decode cX3_chance 41 = .ok (.iconst 5, 1) := by decide +kernel
theorem dd_X3_chance_42 : decode cX3_chance 42 = .ok (.irem, 1) := by decide +kernel
theorem dd_X3_chance_43 : decode cX3_chance 43 = .ok (.iload_n 1, 1) := by decide +kernel
theorem dd_X3_chance_44 : decode cX3_chance 44 = .ok (.iconst 2, 1) := by decide +kernel
theorem dd_X3_chance_45 : decode cX3_chance 45 = .ok (.irem, 1) := by decide +kernel
theorem dd_X3_chance_46 : decode cX3_chance 46 = .ok (.invokevirtual 66, 3) := by decide +kernel
theorem dd_X3_chance_49 : decode cX3_chance 49 = .ok (.pop, 1) := by decide +kernel
theorem dd_X3_chance_50 : decode cX3_chance 50 = .ok (.return_, 1) := by decide +kernel
def tb_X3_chance (kd : Nat → Nat) (K : zK) : zTab := [(0, zt_iload 1 1), (1, zt_const (zI 6) 3), (3, zt_div (fun x y => x - x / y * y) 4), (4, zt_istore 2 5), (5, zt_aload 0 6), (6, zt_iload 2 7), (7, zt_call kd sp_X3_canScrape 2 10), (10, zt_if (fun x => x = 0) (fun x => ¬ x = 0) 22 13), (13, zt_aload 0 14), (14, zt_iload 2 15), (15, zt_call kd sp_X3_scrape 2 18), (18, zt_pop 19), (19, zt_goto 50), (22, zt_iload 1 23), (23, zt_const (zI 7) 25), (25, zt_div (fun x y => x - x / y * y) 26), (26, zt_istore 3 27), (27, zt_aload 0 28), (28, zt_iload 2 29), (29, zt_iload 3 30), (30, zt_const (zI 6) 32), (32, zt_icmp (fun x y => ¬ x = y) (fun x y => x = y) 39 35), (35, zt_const (zI 0) 36), (36, zt_goto 40), (39, zt_iload 3 40), (40, zt_iload 1 41), (41, zt_const (zI 5) 42), (42, zt_div (fun x y => x - x / y * y) 43), (43, zt_iload 1 44), (44, zt_const (zI 2) 45), (45, zt_div (fun x y => x - x / y * y) 46), (46, zt_call kd sp_X3_cover 5 49), (49, zt_pop 50), (50, zt_vret K)]
set_option maxRecDepth 20000 in
theorem tk_X3_chance (d : Nat) (h_X3_canScrape : zMS 3 yX3_canScrape cX3_canScrape 3 (some .boolean) sp_X3_canScrape) (h_X3_scrape : zMS 3 yX3_scrape cX3_scrape 3 (some .int) sp_X3_scrape) (h_X3_cover : zMS 2 yX3_cover cX3_cover 7 (some .int) sp_X3_cover) : zTrue RX3 cX3_chance 4 none (d + 4) (fun kd K => tb_X3_chance kd K) := by
  intro p l e R s m args below meth c D cy A ad bl Qm K C0 hr hlocks hQ
  obtain ⟨hx, hb, hml, hown, hts, hK, hD, hA0, hN, hE, ⟨hR1, hR2⟩, hc1, hc2⟩ := id C0
  unfold tb_X3_chance
  refine List.forall_mem_cons.mpr ⟨ok_iload_n hx hb rfl dd_X3_chance_0, ?_⟩
  refine List.forall_mem_cons.mpr ⟨ok_bipush hx hb dd_X3_chance_1 (by decide), ?_⟩
  refine List.forall_mem_cons.mpr ⟨ok_irem hx hb dd_X3_chance_3, ?_⟩
  refine List.forall_mem_cons.mpr ⟨ok_istore_n hx hb rfl dd_X3_chance_4, ?_⟩
  refine List.forall_mem_cons.mpr ⟨ok_aload_n hx hb rfl dd_X3_chance_5, ?_⟩
  refine List.forall_mem_cons.mpr ⟨ok_iload_n hx hb rfl dd_X3_chance_6, ?_⟩
  refine List.forall_mem_cons.mpr ⟨ok_callV (n := 1) zc_X3 rv_X3_canScrape C0 (h_X3_canScrape (d + 3) (by omega)) (by decide) wd_332 wd_654 wd_331 wd_4 wd_102 ⟨rfl, by decide +kernel, by decide +kernel, by decide +kernel⟩ dd_X3_chance_7, ?_⟩
  refine List.forall_mem_cons.mpr ⟨ok_if_eq hx hb dd_X3_chance_10 (by decide), ?_⟩
  refine List.forall_mem_cons.mpr ⟨ok_aload_n hx hb rfl dd_X3_chance_13, ?_⟩
  refine List.forall_mem_cons.mpr ⟨ok_iload_n hx hb rfl dd_X3_chance_14, ?_⟩
  refine List.forall_mem_cons.mpr ⟨ok_callV (n := 1) zc_X3 rv_X3_scrape C0 (h_X3_scrape (d + 3) (by omega)) (by decide) wd_364 wd_666 wd_363 wd_10 wd_102 ⟨rfl, by decide +kernel, by decide +kernel, by decide +kernel⟩ dd_X3_chance_15, ?_⟩
  refine List.forall_mem_cons.mpr ⟨ok_pop hx hb dd_X3_chance_18, ?_⟩
  refine List.forall_mem_cons.mpr ⟨ok_goto hx hb dd_X3_chance_19 (by decide), ?_⟩
  refine List.forall_mem_cons.mpr ⟨ok_iload_n hx hb rfl dd_X3_chance_22, ?_⟩
  refine List.forall_mem_cons.mpr ⟨ok_bipush hx hb dd_X3_chance_23 (by decide), ?_⟩
  refine List.forall_mem_cons.mpr ⟨ok_irem hx hb dd_X3_chance_25, ?_⟩
  refine List.forall_mem_cons.mpr ⟨ok_istore_n hx hb rfl dd_X3_chance_26, ?_⟩
  refine List.forall_mem_cons.mpr ⟨ok_aload_n hx hb rfl dd_X3_chance_27, ?_⟩
  refine List.forall_mem_cons.mpr ⟨ok_iload_n hx hb rfl dd_X3_chance_28, ?_⟩
  refine List.forall_mem_cons.mpr ⟨ok_iload_n hx hb rfl dd_X3_chance_29, ?_⟩
  refine List.forall_mem_cons.mpr ⟨ok_bipush hx hb dd_X3_chance_30 (by decide), ?_⟩
  refine List.forall_mem_cons.mpr ⟨ok_icmp_ne hx hb dd_X3_chance_32 (by decide), ?_⟩
  refine List.forall_mem_cons.mpr ⟨ok_iconst hx hb dd_X3_chance_35 (by decide), ?_⟩
  refine List.forall_mem_cons.mpr ⟨ok_goto hx hb dd_X3_chance_36 (by decide), ?_⟩
  refine List.forall_mem_cons.mpr ⟨ok_iload_n hx hb rfl dd_X3_chance_39, ?_⟩
  refine List.forall_mem_cons.mpr ⟨ok_iload_n hx hb rfl dd_X3_chance_40, ?_⟩
  refine List.forall_mem_cons.mpr ⟨ok_iconst hx hb dd_X3_chance_41 (by decide), ?_⟩
  refine List.forall_mem_cons.mpr ⟨ok_irem hx hb dd_X3_chance_42, ?_⟩
  refine List.forall_mem_cons.mpr ⟨ok_iload_n hx hb rfl dd_X3_chance_43, ?_⟩
  refine List.forall_mem_cons.mpr ⟨ok_iconst hx hb dd_X3_chance_44 (by decide), ?_⟩
  refine List.forall_mem_cons.mpr ⟨ok_irem hx hb dd_X3_chance_45, ?_⟩
  refine List.forall_mem_cons.mpr ⟨ok_callV (n := 4) zc_X3 rv_X3_cover C0 (h_X3_cover (d + 3) (by omega)) (by decide) wd_356 wd_667 wd_355 wd_9 wd_102 ⟨rfl, by decide +kernel, by decide +kernel, by decide +kernel⟩ dd_X3_chance_46, ?_⟩
  refine List.forall_mem_cons.mpr ⟨ok_pop hx hb dd_X3_chance_49, ?_⟩
  refine List.forall_mem_cons.mpr ⟨ok_vret hx hb hr hlocks hQ dd_X3_chance_50, ?_⟩
  exact fun _ h => absurd h List.not_mem_nil
set_option maxRecDepth 100000 in
theorem vc_X3_chance_0 {kd : Nat → Nat} {K : zK} {X : zX} (hX : ∀ (n pc : Nat) (ls : zLS) (st : List zV) (M : zM), zrun (tb_X3_chance kd K) [] n X pc ls st M → X pc ls st M) {t : Nat} {d : Int32} {M : zM} (hk0 : kd t = 3) (h : ∃ a1 : Sk, (RpS (M.1 t) a1) ∧ ∀ v1 : Int32, (v1 = zp (sk_canR a1 (d - d / (6 : Int32) * (6 : Int32)).toInt = true)) → ((v1 = 0) → ((¬ (d - d / (7 : Int32) * (7 : Int32)) = (6 : Int32)) → ∃ a2 : Sk, (RpS (M.1 t) a2) ∧ (0 ≤ (d - d / (6 : Int32) * (6 : Int32)).toInt ∧ (d - d / (6 : Int32) * (6 : Int32)).toInt < 6) ∧ (sk_canR a2 (d - d / (6 : Int32) * (6 : Int32)).toInt = false) ∧ (0 ≤ (d - d / (7 : Int32) * (7 : Int32)).toInt ∧ (d - d / (7 : Int32) * (7 : Int32)).toInt ≤ 5) ∧ (0 ≤ (d - d / (5 : Int32) * (5 : Int32)).toInt ∧ (d - d / (5 : Int32) * (5 : Int32)).toInt ≤ 4) ∧ ((d - d / (2 : Int32) * (2 : Int32)).toInt = 0 ∨ (d - d / (2 : Int32) * (2 : Int32)).toInt = 1) ∧ ∀ v2 : Int32, (v2.toInt = if sk_len a2 (d - d / (6 : Int32) * (6 : Int32)).toInt < 4 then sk_len a2 (d - d / (6 : Int32) * (6 : Int32)).toInt else -1) → ∀ S2 : zB, (RpS S2 (sk_wr a2 (d - d / (6 : Int32) * (6 : Int32)).toInt (d - d / (7 : Int32) * (7 : Int32)).toInt (d - d / (5 : Int32) * (5 : Int32)).toInt (d - d / (2 : Int32) * (2 : Int32)).toInt)) → ∀ M2 : zM, (M2 = zbs M t S2) → K none M2) ∧ (((d - d / (7 : Int32) * (7 : Int32)) = (6 : Int32)) → ∃ a3 : Sk, (RpS (M.1 t) a3) ∧ (0 ≤ (d - d / (6 : Int32) * (6 : Int32)).toInt ∧ (d - d / (6 : Int32) * (6 : Int32)).toInt < 6) ∧ (sk_canR a3 (d - d / (6 : Int32) * (6 : Int32)).toInt = false) ∧ (0 ≤ (0 : Int32).toInt ∧ (0 : Int32).toInt ≤ 5) ∧ (0 ≤ (d - d / (5 : Int32) * (5 : Int32)).toInt ∧ (d - d / (5 : Int32) * (5 : Int32)).toInt ≤ 4) ∧ ((d - d / (2 : Int32) * (2 : Int32)).toInt = 0 ∨ (d - d / (2 : Int32) * (2 : Int32)).toInt = 1) ∧ ∀ v3 : Int32, (v3.toInt = if sk_len a3 (d - d / (6 : Int32) * (6 : Int32)).toInt < 4 then sk_len a3 (d - d / (6 : Int32) * (6 : Int32)).toInt else -1) → ∀ S3 : zB, (RpS S3 (sk_wr a3 (d - d / (6 : Int32) * (6 : Int32)).toInt (0 : Int32).toInt (d - d / (5 : Int32) * (5 : Int32)).toInt (d - d / (2 : Int32) * (2 : Int32)).toInt)) → ∀ M3 : zM, (M3 = zbs M t S3) → K none M3)) ∧ ((¬ v1 = 0) → ∃ a4 : Sk, (RpS (M.1 t) a4) ∧ ∃ l4 : Ly, (sk_top a4 (d - d / (6 : Int32) * (6 : Int32)).toInt = some l4) ∧ (l4.2.2.2.2 = -1) ∧ ∀ v4 : Int32, (v4.toInt = a4.2 - l4.2.2.2.1) → ∀ S4 : zB, (RpS S4 (sk_rub a4 (d - d / (6 : Int32) * (6 : Int32)).toInt)) → ∀ M4 : zM, (M4 = zbs M t S4) → K none M4)) : X 0 [some (zR t 0), some (zI (d)), none, none] [] M := hX 29 0 _ [] M (show (¬ (6 : Int32) = 0) ∧ (kd t = 3) ∧ ∃ a1 : Sk, (RpS (M.1 t) a1) ∧ ∀ v1 : Int32, (v1 = zp (sk_canR a1 (d - d / (6 : Int32) * (6 : Int32)).toInt = true)) → ((v1 = 0) → (¬ (7 : Int32) = 0) ∧ ((¬ (d - d / (7 : Int32) * (7 : Int32)) = (6 : Int32)) → (¬ (5 : Int32) = 0) ∧ (¬ (2 : Int32) = 0) ∧ (kd t = 3) ∧ ∃ a2 : Sk, (RpS (M.1 t) a2) ∧ (0 ≤ (d - d / (6 : Int32) * (6 : Int32)).toInt ∧ (d - d / (6 : Int32) * (6 : Int32)).toInt < 6) ∧ (sk_canR a2 (d - d / (6 : Int32) * (6 : Int32)).toInt = false) ∧ (0 ≤ (d - d / (7 : Int32) * (7 : Int32)).toInt ∧ (d - d / (7 : Int32) * (7 : Int32)).toInt ≤ 5) ∧ (0 ≤ (d - d / (5 : Int32) * (5 : Int32)).toInt ∧ (d - d / (5 : Int32) * (5 : Int32)).toInt ≤ 4) ∧ ((d - d / (2 : Int32) * (2 : Int32)).toInt = 0 ∨ (d - d / (2 : Int32) * (2 : Int32)).toInt = 1) ∧ ∀ v2 : Int32, (v2.toInt = if sk_len a2 (d - d / (6 : Int32) * (6 : Int32)).toInt < 4 then sk_len a2 (d - d / (6 : Int32) * (6 : Int32)).toInt else -1) → ∀ S2 : zB, (RpS S2 (sk_wr a2 (d - d / (6 : Int32) * (6 : Int32)).toInt (d - d / (7 : Int32) * (7 : Int32)).toInt (d - d / (5 : Int32) * (5 : Int32)).toInt (d - d / (2 : Int32) * (2 : Int32)).toInt)) → ∀ M2 : zM, (M2 = zbs M t S2) → K none M2) ∧ (((d - d / (7 : Int32) * (7 : Int32)) = (6 : Int32)) → (¬ (5 : Int32) = 0) ∧ (¬ (2 : Int32) = 0) ∧ (kd t = 3) ∧ ∃ a3 : Sk, (RpS (M.1 t) a3) ∧ (0 ≤ (d - d / (6 : Int32) * (6 : Int32)).toInt ∧ (d - d / (6 : Int32) * (6 : Int32)).toInt < 6) ∧ (sk_canR a3 (d - d / (6 : Int32) * (6 : Int32)).toInt = false) ∧ (0 ≤ (0 : Int32).toInt ∧ (0 : Int32).toInt ≤ 5) ∧ (0 ≤ (d - d / (5 : Int32) * (5 : Int32)).toInt ∧ (d - d / (5 : Int32) * (5 : Int32)).toInt ≤ 4) ∧ ((d - d / (2 : Int32) * (2 : Int32)).toInt = 0 ∨ (d - d / (2 : Int32) * (2 : Int32)).toInt = 1) ∧ ∀ v3 : Int32, (v3.toInt = if sk_len a3 (d - d / (6 : Int32) * (6 : Int32)).toInt < 4 then sk_len a3 (d - d / (6 : Int32) * (6 : Int32)).toInt else -1) → ∀ S3 : zB, (RpS S3 (sk_wr a3 (d - d / (6 : Int32) * (6 : Int32)).toInt (0 : Int32).toInt (d - d / (5 : Int32) * (5 : Int32)).toInt (d - d / (2 : Int32) * (2 : Int32)).toInt)) → ∀ M3 : zM, (M3 = zbs M t S3) → K none M3)) ∧ ((¬ v1 = 0) → (kd t = 3) ∧ ∃ a4 : Sk, (RpS (M.1 t) a4) ∧ ∃ l4 : Ly, (sk_top a4 (d - d / (6 : Int32) * (6 : Int32)).toInt = some l4) ∧ (l4.2.2.2.2 = -1) ∧ ∀ v4 : Int32, (v4.toInt = a4.2 - l4.2.2.2.1) → ∀ S4 : zB, (RpS S4 (sk_rub a4 (d - d / (6 : Int32) * (6 : Int32)).toInt)) → ∀ M4 : zM, (M4 = zbs M t S4) → K none M4) from ⟨(by decide), ⟨hk0, h.elim (fun a1 h => ⟨a1, ⟨h.1, have h := h.2; fun v1 => have h := h v1; fun q => have h := h q; ⟨fun q => have h := h.1 q; ⟨(by decide), ⟨fun q => have h := h.1 q; ⟨(by decide), ⟨(by decide), ⟨hk0, h.elim (fun a2 h => ⟨a2, ⟨h.1, have h := h.2; ⟨h.1, have h := h.2; ⟨h.1, have h := h.2; ⟨h.1, have h := h.2; ⟨h.1, have h := h.2; ⟨h.1, have h := h.2; fun v2 => have h := h v2; fun q => have h := h q; fun S2 => have h := h S2; fun q => have h := h q; fun M2 => have h := h M2; fun q => have h := h q; h⟩⟩⟩⟩⟩⟩⟩)⟩⟩⟩, fun q => have h := h.2 q; ⟨(by decide), ⟨(by decide), ⟨hk0, h.elim (fun a3 h => ⟨a3, ⟨h.1, have h := h.2; ⟨h.1, have h := h.2; ⟨h.1, have h := h.2; ⟨h.1, have h := h.2; ⟨h.1, have h := h.2; ⟨h.1, have h := h.2; fun v3 => have h := h v3; fun q => have h := h q; fun S3 => have h := h S3; fun q => have h := h q; fun M3 => have h := h M3; fun q => have h := h q; h⟩⟩⟩⟩⟩⟩⟩)⟩⟩⟩⟩⟩, fun q => have h := h.2 q; ⟨hk0, h.elim (fun a4 h => ⟨a4, ⟨h.1, have h := h.2; h.elim (fun l4 h => ⟨l4, ⟨h.1, have h := h.2; ⟨h.1, have h := h.2; fun v4 => have h := h v4; fun q => have h := h q; fun S4 => have h := h S4; fun q => have h := h q; fun M4 => have h := h M4; fun q => have h := h q; h⟩⟩⟩)⟩⟩)⟩⟩⟩⟩)⟩⟩)
def sp_X3_wipe : zSpec := fun kd as M K => match as with
  | [.inr (.inr (.inl (t, 0)))] => (kd t = 3) ∧ ∀ S' : zB, (RpS S' (sk_0)) → ∀ M' : zM, (M' = zbs M t S') → K none M'
  | _ => False
theorem rv_X3_wipe : zrv sp_X3_wipe 3 0 := by
  intro kd as M K h
  unfold sp_X3_wipe at h
  split at h
  · exact ⟨_, _, rfl, h.1⟩
  · exact h.elim
theorem dd_X3_wipe_0 : decode cX3_wipe 0 = .ok (.aload_n 0, 1) := by decide +kernel
theorem dd_X3_wipe_1 : decode cX3_wipe 1 = .ok (.iconst 0, 1) := by decide +kernel
theorem dd_X3_wipe_2 : decode cX3_wipe 2 = .ok (.putfield 30, 3) := by decide +kernel
theorem dd_X3_wipe_5 : decode cX3_wipe 5 = .ok (.iconst 0, 1) := by decide +kernel
theorem dd_X3_wipe_6 : decode cX3_wipe 6 = .ok (.istore_n 1, 1) := by decide +kernel
theorem dd_X3_wipe_7 : decode cX3_wipe 7 = .ok (.iload_n 1, 1) := by decide +kernel
theorem dd_X3_wipe_8 : decode cX3_wipe 8 = .ok (.bipush 6, 2) := by decide +kernel
theorem dd_X3_wipe_10 : decode cX3_wipe 10 = .ok (.if_icmp .ge 16, 3) := by decide +kernel
theorem dd_X3_wipe_13 : decode cX3_wipe 13 = .ok (.aload_n 0, 1) := by decide +kernel
theorem dd_X3_wipe_14 : decode cX3_wipe 14 = .ok (.getfield 9, 3) := by decide +kernel
theorem dd_X3_wipe_17 : decode cX3_wipe 17 = .ok (.iload_n 1, 1) := by decide +kernel
theorem dd_X3_wipe_18 : decode cX3_wipe 18 = .ok (.iconst 0, 1) := by decide +kernel
theorem dd_X3_wipe_19 : decode cX3_wipe 19 = .ok (.iastore, 1) := by decide +kernel
theorem dd_X3_wipe_20 : decode cX3_wipe 20 = .ok (.iinc 1 1, 3) := by decide +kernel
theorem dd_X3_wipe_23 : decode cX3_wipe 23 = .ok (.goto (-16), 3) := by decide +kernel
theorem dd_X3_wipe_26 : decode cX3_wipe 26 = .ok (.return_, 1) := by decide +kernel
def tb_X3_wipe (kd : Nat → Nat) (K : zK) : zTab := [(0, zt_aload 0 1), (1, zt_const (zI 0) 2), (2, zt_putI kd 3 6 5), (5, zt_const (zI 0) 6), (6, zt_istore 1 7), (7, zt_iload 1 8), (8, zt_const (zI 6) 10), (10, zt_icmp (fun x y => y ≤ x) (fun x y => ¬ y ≤ x) 26 13), (13, zt_aload 0 14), (14, zt_getR kd 3 0 1 17), (17, zt_iload 1 18), (18, zt_const (zI 0) 19), (19, zt_ast kd 0 20), (20, zt_iinc 1 1 23), (23, zt_goto 7), (26, zt_vret K)]
set_option maxRecDepth 20000 in
theorem tk_X3_wipe (d : Nat)  : zTrue RX3 cX3_wipe 2 none (d + 1) (fun kd K => tb_X3_wipe kd K) := by
  intro p l e R s m args below meth c D cy A ad bl Qm K C0 hr hlocks hQ
  obtain ⟨hx, hb, hml, hown, hts, hK, hD, hA0, hN, hE, ⟨hR1, hR2⟩, hc1, hc2⟩ := id C0
  unfold tb_X3_wipe
  refine List.forall_mem_cons.mpr ⟨ok_aload_n hx hb rfl dd_X3_wipe_0, ?_⟩
  refine List.forall_mem_cons.mpr ⟨ok_iconst hx hb dd_X3_wipe_1 (by decide), ?_⟩
  refine List.forall_mem_cons.mpr ⟨ok_putI (j := 6) hx hb hts zi_X3 tyX3 tyX3_ok nmX3 hown hK hD zc_X3 (by decide) rfl rfl (by decide +kernel) (fun t fl h => by cases h; rfl) (hts _ wd_143) dd_X3_wipe_2, ?_⟩
  refine List.forall_mem_cons.mpr ⟨ok_iconst hx hb dd_X3_wipe_5 (by decide), ?_⟩
  refine List.forall_mem_cons.mpr ⟨ok_istore_n hx hb rfl dd_X3_wipe_6, ?_⟩
  refine List.forall_mem_cons.mpr ⟨ok_iload_n hx hb rfl dd_X3_wipe_7, ?_⟩
  refine List.forall_mem_cons.mpr ⟨ok_bipush hx hb dd_X3_wipe_8 (by decide), ?_⟩
  refine List.forall_mem_cons.mpr ⟨ok_icmp_ge hx hb dd_X3_wipe_10 (by decide), ?_⟩
  refine List.forall_mem_cons.mpr ⟨ok_aload_n hx hb rfl dd_X3_wipe_13, ?_⟩
  refine List.forall_mem_cons.mpr ⟨ok_getR (j := 0) hx hb hts zi_X3 hown hK zc_X3 (by decide) rfl (fun t fl h => by cases h; rfl) (hts _ wd_136) dd_X3_wipe_14, ?_⟩
  refine List.forall_mem_cons.mpr ⟨ok_iload_n hx hb rfl dd_X3_wipe_17, ?_⟩
  refine List.forall_mem_cons.mpr ⟨ok_iconst hx hb dd_X3_wipe_18 (by decide), ?_⟩
  refine List.forall_mem_cons.mpr ⟨ok_ast (ty := 0) rfl hx hb hK hD (Or.inl ⟨rfl, rfl, dd_X3_wipe_19⟩), ?_⟩
  refine List.forall_mem_cons.mpr ⟨ok_iinc hx hb dd_X3_wipe_20 (by decide), ?_⟩
  refine List.forall_mem_cons.mpr ⟨ok_goto hx hb dd_X3_wipe_23 (by decide), ?_⟩
  refine List.forall_mem_cons.mpr ⟨ok_vret hx hb hr hlocks hQ dd_X3_wipe_26, ?_⟩
  exact fun _ h => absurd h List.not_mem_nil
set_option maxRecDepth 100000 in
theorem vc_X3_wipe_0 {kd : Nat → Nat} {K : zK} {X : zX} (hX : ∀ (n pc : Nat) (ls : zLS) (st : List zV) (M : zM), zrun (tb_X3_wipe kd K) [(7, [])] n X pc ls st M → X pc ls st M) {t : Nat} {M : zM} (hk0 : kd t = 3) (h : ∀ M1 : zM, (M1 = zmw M t 0 (upd (M.1 t 0) 6 (0 : Int32))) → X 7 [some (zR t 0), some (zI ((0 : Int32)))] [] M1) : X 0 [some (zR t 0), none] [] M := hX 7 0 _ [] M (show (kd t = 3) ∧ ∀ M1 : zM, (M1 = zmw M t 0 (upd (M.1 t 0) 6 (0 : Int32))) → X 7 [some (zR t 0), some (zI ((0 : Int32)))] [] M1 from ⟨hk0, fun M1 => have h := h M1; fun q => have h := h q; h⟩)
set_option maxRecDepth 100000 in
theorem vc_X3_wipe_7 {kd : Nat → Nat} {K : zK} {X : zX} (hX : ∀ (n pc : Nat) (ls : zLS) (st : List zV) (M : zM), zrun (tb_X3_wipe kd K) [(7, [])] n X pc ls st M → X pc ls st M) {t : Nat} {c : Int32} {M : zM} (hk0 : kd t = 3) (h : (((6 : Int32) ≤ c) → K none M) ∧ ((¬ (6 : Int32) ≤ c) → (zin (kd t) 1 0 c) ∧ ∀ M1 : zM, (M1 = zmw M t 1 (upd (M.1 t 1) (c).toNatClampNeg (0 : Int32))) → X 7 [some (zR t 0), some (zI (c + 1))] [] M1)) : X 7 [some (zR t 0), some (zI (c))] [] M := hX 12 7 _ [] M (show (((6 : Int32) ≤ c) → K none M) ∧ ((¬ (6 : Int32) ≤ c) → (kd t = 3) ∧ (zin (kd t) 1 0 c) ∧ ∀ M1 : zM, (M1 = zmw M t 1 (upd (M.1 t 1) (c).toNatClampNeg (0 : Int32))) → X 7 [some (zR t 0), some (zI (c + 1))] [] M1) from ⟨fun q => have h := h.1 q; h, fun q => have h := h.2 q; ⟨hk0, ⟨h.1, have h := h.2; fun M1 => have h := h M1; fun q => have h := h q; h⟩⟩⟩)
def sp_X3_take : zSpec := fun kd as M K => match as with
  | [.inr (.inr (.inl (t, 0))), .inr (.inr (.inl (u, 0)))] => (kd t = 3) ∧ (kd u = 3) ∧ (¬ t = u) ∧ ∃ a : Sk, (RpS (M.1 u) a) ∧ ∀ S' : zB, (RpS S' (a)) → ∀ M' : zM, (M' = zbs M t S') → K none M'
  | _ => False
theorem rv_X3_take : zrv sp_X3_take 3 1 := by
  intro kd as M K h
  unfold sp_X3_take at h
  split at h
  · exact ⟨_, _, rfl, h.1⟩
  · exact h.elim
theorem dd_X3_take_0 : decode cX3_take 0 = .ok (.aload_n 0, 1) := by decide +kernel
theorem dd_X3_take_1 : decode cX3_take 1 = .ok (.aload_n 1, 1) := by decide +kernel
theorem dd_X3_take_2 : decode cX3_take 2 = .ok (.getfield 30, 3) := by decide +kernel
theorem dd_X3_take_5 : decode cX3_take 5 = .ok (.putfield 30, 3) := by decide +kernel
theorem dd_X3_take_8 : decode cX3_take 8 = .ok (.aload_n 1, 1) := by decide +kernel
theorem dd_X3_take_9 : decode cX3_take 9 = .ok (.getfield 9, 3) := by decide +kernel
theorem dd_X3_take_12 : decode cX3_take 12 = .ok (.iconst 0, 1) := by decide +kernel
theorem dd_X3_take_13 : decode cX3_take 13 = .ok (.aload_n 0, 1) := by decide +kernel
theorem dd_X3_take_14 : decode cX3_take 14 = .ok (.getfield 9, 3) := by decide +kernel
theorem dd_X3_take_17 : decode cX3_take 17 = .ok (.iconst 0, 1) := by decide +kernel
theorem dd_X3_take_18 : decode cX3_take 18 = .ok (.bipush 6, 2) := by decide +kernel
theorem dd_X3_take_20 : decode cX3_take 20 = .ok (.invokestatic 34, 3) := by decide +kernel
theorem dd_X3_take_23 : decode cX3_take 23 = .ok (.aload_n 1, 1) := by decide +kernel
theorem dd_X3_take_24 : decode cX3_take 24 = .ok (.getfield 15, 3) := by decide +kernel
theorem dd_X3_take_27 : decode cX3_take 27 = .ok (.iconst 0, 1) := by decide +kernel
theorem dd_X3_take_28 : decode cX3_take 28 = .ok (.aload_n 0, 1) := by decide +kernel
theorem dd_X3_take_29 : decode cX3_take 29 = .ok (.getfield 15, 3) := by decide +kernel
theorem dd_X3_take_32 : decode cX3_take 32 = .ok (.iconst 0, 1) := by decide +kernel
theorem dd_X3_take_33 : decode cX3_take 33 = .ok (.bipush 24, 2) := by decide +kernel
theorem dd_X3_take_35 : decode cX3_take 35 = .ok (.invokestatic 34, 3) := by decide +kernel
theorem dd_X3_take_38 : decode cX3_take 38 = .ok (.aload_n 1, 1) := by decide +kernel
theorem dd_X3_take_39 : decode cX3_take 39 = .ok (.getfield 18, 3) := by decide +kernel
theorem dd_X3_take_42 : decode cX3_take 42 = .ok (.iconst 0, 1) := by decide +kernel
theorem dd_X3_take_43 : decode cX3_take 43 = .ok (.aload_n 0, 1) := by decide +kernel
theorem dd_X3_take_44 : decode cX3_take 44 = .ok (.getfield 18, 3) := by decide +kernel
theorem dd_X3_take_47 : decode cX3_take 47 = .ok (.iconst 0, 1) := by decide +kernel
theorem dd_X3_take_48 : decode cX3_take 48 = .ok (.bipush 24, 2) := by decide +kernel
theorem dd_X3_take_50 : decode cX3_take 50 = .ok (.invokestatic 34, 3) := by decide +kernel
theorem dd_X3_take_53 : decode cX3_take 53 = .ok (.aload_n 1, 1) := by decide +kernel
theorem dd_X3_take_54 : decode cX3_take 54 = .ok (.getfield 21, 3) := by decide +kernel
theorem dd_X3_take_57 : decode cX3_take 57 = .ok (.iconst 0, 1) := by decide +kernel
theorem dd_X3_take_58 : decode cX3_take 58 = .ok (.aload_n 0, 1) := by decide +kernel
theorem dd_X3_take_59 : decode cX3_take 59 = .ok (.getfield 21, 3) := by decide +kernel
theorem dd_X3_take_62 : decode cX3_take 62 = .ok (.iconst 0, 1) := by decide +kernel
theorem dd_X3_take_63 : decode cX3_take 63 = .ok (.bipush 24, 2) := by decide +kernel
theorem dd_X3_take_65 : decode cX3_take 65 = .ok (.invokestatic 34, 3) := by decide +kernel
theorem dd_X3_take_68 : decode cX3_take 68 = .ok (.aload_n 1, 1) := by decide +kernel
theorem dd_X3_take_69 : decode cX3_take 69 = .ok (.getfield 24, 3) := by decide +kernel
theorem dd_X3_take_72 : decode cX3_take 72 = .ok (.iconst 0, 1) := by decide +kernel
theorem dd_X3_take_73 : decode cX3_take 73 = .ok (.aload_n 0, 1) := by decide +kernel
theorem dd_X3_take_74 : decode cX3_take 74 = .ok (.getfield 24, 3) := by decide +kernel
theorem dd_X3_take_77 : decode cX3_take 77 = .ok (.iconst 0, 1) := by decide +kernel
theorem dd_X3_take_78 : decode cX3_take 78 = .ok (.bipush 24, 2) := by decide +kernel
theorem dd_X3_take_80 : decode cX3_take 80 = .ok (.invokestatic 34, 3) := by decide +kernel
theorem dd_X3_take_83 : decode cX3_take 83 = .ok (.aload_n 1, 1) := by decide +kernel
theorem dd_X3_take_84 : decode cX3_take 84 = .ok (.getfield 27, 3) := by decide +kernel
theorem dd_X3_take_87 : decode cX3_take 87 = .ok (.iconst 0, 1) := by decide +kernel
theorem dd_X3_take_88 : decode cX3_take 88 = .ok (.aload_n 0, 1) := by decide +kernel
theorem dd_X3_take_89 : decode cX3_take 89 = .ok (.getfield 27, 3) := by decide +kernel
theorem dd_X3_take_92 : decode cX3_take 92 = .ok (.iconst 0, 1) := by decide +kernel
theorem dd_X3_take_93 : decode cX3_take 93 = .ok (.bipush 24, 2) := by decide +kernel
theorem dd_X3_take_95 : decode cX3_take 95 = .ok (.invokestatic 34, 3) := by decide +kernel
theorem dd_X3_take_98 : decode cX3_take 98 = .ok (.return_, 1) := by decide +kernel
def tb_X3_take (kd : Nat → Nat) (K : zK) : zTab := [(0, zt_aload 0 1), (1, zt_aload 1 2), (2, zt_getI kd 3 6 5), (5, zt_putI kd 3 6 8), (8, zt_aload 1 9), (9, zt_getR kd 3 0 1 12), (12, zt_const (zI 0) 13), (13, zt_aload 0 14), (14, zt_getR kd 3 0 1 17), (17, zt_const (zI 0) 18), (18, zt_const (zI 6) 20), (20, zt_copy kd 23), (23, zt_aload 1 24), (24, zt_getR kd 3 0 2 27), (27, zt_const (zI 0) 28), (28, zt_aload 0 29), (29, zt_getR kd 3 0 2 32), (32, zt_const (zI 0) 33), (33, zt_const (zI 24) 35), (35, zt_copy kd 38), (38, zt_aload 1 39), (39, zt_getR kd 3 0 3 42), (42, zt_const (zI 0) 43), (43, zt_aload 0 44), (44, zt_getR kd 3 0 3 47), (47, zt_const (zI 0) 48), (48, zt_const (zI 24) 50), (50, zt_copy kd 53), (53, zt_aload 1 54), (54, zt_getR kd 3 0 4 57), (57, zt_const (zI 0) 58), (58, zt_aload 0 59), (59, zt_getR kd 3 0 4 62), (62, zt_const (zI 0) 63), (63, zt_const (zI 24) 65), (65, zt_copy kd 68), (68, zt_aload 1 69), (69, zt_getR kd 3 0 5 72), (72, zt_const (zI 0) 73), (73, zt_aload 0 74), (74, zt_getR kd 3 0 5 77), (77, zt_const (zI 0) 78), (78, zt_const (zI 24) 80), (80, zt_copy kd 83), (83, zt_aload 1 84), (84, zt_getR kd 3 0 6 87), (87, zt_const (zI 0) 88), (88, zt_aload 0 89), (89, zt_getR kd 3 0 6 92), (92, zt_const (zI 0) 93), (93, zt_const (zI 24) 95), (95, zt_copy kd 98), (98, zt_vret K)]
set_option maxRecDepth 20000 in
theorem tk_X3_take (d : Nat)  : zTrue RX3 cX3_take 2 none (d + 1) (fun kd K => tb_X3_take kd K) := by
  intro p l e R s m args below meth c D cy A ad bl Qm K C0 hr hlocks hQ
  obtain ⟨hx, hb, hml, hown, hts, hK, hD, hA0, hN, hE, ⟨hR1, hR2⟩, hc1, hc2⟩ := id C0
  unfold tb_X3_take
  refine List.forall_mem_cons.mpr ⟨ok_aload_n hx hb rfl dd_X3_take_0, ?_⟩
  refine List.forall_mem_cons.mpr ⟨ok_aload_n hx hb rfl dd_X3_take_1, ?_⟩
  refine List.forall_mem_cons.mpr ⟨ok_getI (j := 6) hx hb hts zi_X3 hown hK zc_X3 (by decide) rfl (fun t fl h => by cases h; rfl) (hts _ wd_143) dd_X3_take_2, ?_⟩
  refine List.forall_mem_cons.mpr ⟨ok_putI (j := 6) hx hb hts zi_X3 tyX3 tyX3_ok nmX3 hown hK hD zc_X3 (by decide) rfl rfl (by decide +kernel) (fun t fl h => by cases h; rfl) (hts _ wd_143) dd_X3_take_5, ?_⟩
  refine List.forall_mem_cons.mpr ⟨ok_aload_n hx hb rfl dd_X3_take_8, ?_⟩
  refine List.forall_mem_cons.mpr ⟨ok_getR (j := 0) hx hb hts zi_X3 hown hK zc_X3 (by decide) rfl (fun t fl h => by cases h; rfl) (hts _ wd_136) dd_X3_take_9, ?_⟩
  refine List.forall_mem_cons.mpr ⟨ok_iconst hx hb dd_X3_take_12 (by decide), ?_⟩
  refine List.forall_mem_cons.mpr ⟨ok_aload_n hx hb rfl dd_X3_take_13, ?_⟩
  refine List.forall_mem_cons.mpr ⟨ok_getR (j := 0) hx hb hts zi_X3 hown hK zc_X3 (by decide) rfl (fun t fl h => by cases h; rfl) (hts _ wd_136) dd_X3_take_14, ?_⟩
  refine List.forall_mem_cons.mpr ⟨ok_iconst hx hb dd_X3_take_17 (by decide), ?_⟩
  refine List.forall_mem_cons.mpr ⟨ok_bipush hx hb dd_X3_take_18 (by decide), ?_⟩
  refine List.forall_mem_cons.mpr ⟨ok_copy hx hb hml hown (hts _ wd_526) (hts _ wd_352) (hts _ wd_351) (hts _ wd_108) hK hD ⟨by omega, by omega⟩ dd_X3_take_20, ?_⟩
  refine List.forall_mem_cons.mpr ⟨ok_aload_n hx hb rfl dd_X3_take_23, ?_⟩
  refine List.forall_mem_cons.mpr ⟨ok_getR (j := 1) hx hb hts zi_X3 hown hK zc_X3 (by decide) rfl (fun t fl h => by cases h; rfl) (hts _ wd_138) dd_X3_take_24, ?_⟩
  refine List.forall_mem_cons.mpr ⟨ok_iconst hx hb dd_X3_take_27 (by decide), ?_⟩
  refine List.forall_mem_cons.mpr ⟨ok_aload_n hx hb rfl dd_X3_take_28, ?_⟩
  refine List.forall_mem_cons.mpr ⟨ok_getR (j := 1) hx hb hts zi_X3 hown hK zc_X3 (by decide) rfl (fun t fl h => by cases h; rfl) (hts _ wd_138) dd_X3_take_29, ?_⟩
  refine List.forall_mem_cons.mpr ⟨ok_iconst hx hb dd_X3_take_32 (by decide), ?_⟩
  refine List.forall_mem_cons.mpr ⟨ok_bipush hx hb dd_X3_take_33 (by decide), ?_⟩
  refine List.forall_mem_cons.mpr ⟨ok_copy hx hb hml hown (hts _ wd_526) (hts _ wd_352) (hts _ wd_351) (hts _ wd_108) hK hD ⟨by omega, by omega⟩ dd_X3_take_35, ?_⟩
  refine List.forall_mem_cons.mpr ⟨ok_aload_n hx hb rfl dd_X3_take_38, ?_⟩
  refine List.forall_mem_cons.mpr ⟨ok_getR (j := 2) hx hb hts zi_X3 hown hK zc_X3 (by decide) rfl (fun t fl h => by cases h; rfl) (hts _ wd_139) dd_X3_take_39, ?_⟩
  refine List.forall_mem_cons.mpr ⟨ok_iconst hx hb dd_X3_take_42 (by decide), ?_⟩
  refine List.forall_mem_cons.mpr ⟨ok_aload_n hx hb rfl dd_X3_take_43, ?_⟩
  refine List.forall_mem_cons.mpr ⟨ok_getR (j := 2) hx hb hts zi_X3 hown hK zc_X3 (by decide) rfl (fun t fl h => by cases h; rfl) (hts _ wd_139) dd_X3_take_44, ?_⟩
  refine List.forall_mem_cons.mpr ⟨ok_iconst hx hb dd_X3_take_47 (by decide), ?_⟩
  refine List.forall_mem_cons.mpr ⟨ok_bipush hx hb dd_X3_take_48 (by decide), ?_⟩
  refine List.forall_mem_cons.mpr ⟨ok_copy hx hb hml hown (hts _ wd_526) (hts _ wd_352) (hts _ wd_351) (hts _ wd_108) hK hD ⟨by omega, by omega⟩ dd_X3_take_50, ?_⟩
  refine List.forall_mem_cons.mpr ⟨ok_aload_n hx hb rfl dd_X3_take_53, ?_⟩
  refine List.forall_mem_cons.mpr ⟨ok_getR (j := 3) hx hb hts zi_X3 hown hK zc_X3 (by decide) rfl (fun t fl h => by cases h; rfl) (hts _ wd_140) dd_X3_take_54, ?_⟩
  refine List.forall_mem_cons.mpr ⟨ok_iconst hx hb dd_X3_take_57 (by decide), ?_⟩
  refine List.forall_mem_cons.mpr ⟨ok_aload_n hx hb rfl dd_X3_take_58, ?_⟩
  refine List.forall_mem_cons.mpr ⟨ok_getR (j := 3) hx hb hts zi_X3 hown hK zc_X3 (by decide) rfl (fun t fl h => by cases h; rfl) (hts _ wd_140) dd_X3_take_59, ?_⟩
  refine List.forall_mem_cons.mpr ⟨ok_iconst hx hb dd_X3_take_62 (by decide), ?_⟩
  refine List.forall_mem_cons.mpr ⟨ok_bipush hx hb dd_X3_take_63 (by decide), ?_⟩
  refine List.forall_mem_cons.mpr ⟨ok_copy hx hb hml hown (hts _ wd_526) (hts _ wd_352) (hts _ wd_351) (hts _ wd_108) hK hD ⟨by omega, by omega⟩ dd_X3_take_65, ?_⟩
  refine List.forall_mem_cons.mpr ⟨ok_aload_n hx hb rfl dd_X3_take_68, ?_⟩
  refine List.forall_mem_cons.mpr ⟨ok_getR (j := 4) hx hb hts zi_X3 hown hK zc_X3 (by decide) rfl (fun t fl h => by cases h; rfl) (hts _ wd_141) dd_X3_take_69, ?_⟩
  refine List.forall_mem_cons.mpr ⟨ok_iconst hx hb dd_X3_take_72 (by decide), ?_⟩
  refine List.forall_mem_cons.mpr ⟨ok_aload_n hx hb rfl dd_X3_take_73, ?_⟩
  refine List.forall_mem_cons.mpr ⟨ok_getR (j := 4) hx hb hts zi_X3 hown hK zc_X3 (by decide) rfl (fun t fl h => by cases h; rfl) (hts _ wd_141) dd_X3_take_74, ?_⟩
  refine List.forall_mem_cons.mpr ⟨ok_iconst hx hb dd_X3_take_77 (by decide), ?_⟩
  refine List.forall_mem_cons.mpr ⟨ok_bipush hx hb dd_X3_take_78 (by decide), ?_⟩
  refine List.forall_mem_cons.mpr ⟨ok_copy hx hb hml hown (hts _ wd_526) (hts _ wd_352) (hts _ wd_351) (hts _ wd_108) hK hD ⟨by omega, by omega⟩ dd_X3_take_80, ?_⟩
  refine List.forall_mem_cons.mpr ⟨ok_aload_n hx hb rfl dd_X3_take_83, ?_⟩
  refine List.forall_mem_cons.mpr ⟨ok_getR (j := 5) hx hb hts zi_X3 hown hK zc_X3 (by decide) rfl (fun t fl h => by cases h; rfl) (hts _ wd_142) dd_X3_take_84, ?_⟩
  refine List.forall_mem_cons.mpr ⟨ok_iconst hx hb dd_X3_take_87 (by decide), ?_⟩
  refine List.forall_mem_cons.mpr ⟨ok_aload_n hx hb rfl dd_X3_take_88, ?_⟩
  refine List.forall_mem_cons.mpr ⟨ok_getR (j := 5) hx hb hts zi_X3 hown hK zc_X3 (by decide) rfl (fun t fl h => by cases h; rfl) (hts _ wd_142) dd_X3_take_89, ?_⟩
  refine List.forall_mem_cons.mpr ⟨ok_iconst hx hb dd_X3_take_92 (by decide), ?_⟩
  refine List.forall_mem_cons.mpr ⟨ok_bipush hx hb dd_X3_take_93 (by decide), ?_⟩
  refine List.forall_mem_cons.mpr ⟨ok_copy hx hb hml hown (hts _ wd_526) (hts _ wd_352) (hts _ wd_351) (hts _ wd_108) hK hD ⟨by omega, by omega⟩ dd_X3_take_95, ?_⟩
  refine List.forall_mem_cons.mpr ⟨ok_vret hx hb hr hlocks hQ dd_X3_take_98, ?_⟩
  exact fun _ h => absurd h List.not_mem_nil
set_option maxRecDepth 100000 in
theorem vc_X3_take_0 {kd : Nat → Nat} {K : zK} {X : zX} (hX : ∀ (n pc : Nat) (ls : zLS) (st : List zV) (M : zM), zrun (tb_X3_take kd K) [] n X pc ls st M → X pc ls st M) {t : Nat} {u : Nat} {M : zM} (hk0 : kd t = 3) (hk1 : kd u = 3) (h : ∀ M1 : zM, (M1 = zmw M t 0 (upd (M.1 t 0) 6 (M.1 u 0 6))) → (zcpok (kd u) 1 (kd t) 1 (0 : Int32) (0 : Int32) (6 : Int32)) ∧ ∀ M2 : zM, (M2 = zcpy M1 u 1 t 1 ((0 : Int32)).toNatClampNeg ((0 : Int32)).toNatClampNeg ((6 : Int32)).toNatClampNeg) → (zcpok (kd u) 2 (kd t) 2 (0 : Int32) (0 : Int32) (24 : Int32)) ∧ ∀ M3 : zM, (M3 = zcpy M2 u 2 t 2 ((0 : Int32)).toNatClampNeg ((0 : Int32)).toNatClampNeg ((24 : Int32)).toNatClampNeg) → (zcpok (kd u) 3 (kd t) 3 (0 : Int32) (0 : Int32) (24 : Int32)) ∧ ∀ M4 : zM, (M4 = zcpy M3 u 3 t 3 ((0 : Int32)).toNatClampNeg ((0 : Int32)).toNatClampNeg ((24 : Int32)).toNatClampNeg) → (zcpok (kd u) 4 (kd t) 4 (0 : Int32) (0 : Int32) (24 : Int32)) ∧ ∀ M5 : zM, (M5 = zcpy M4 u 4 t 4 ((0 : Int32)).toNatClampNeg ((0 : Int32)).toNatClampNeg ((24 : Int32)).toNatClampNeg) → (zcpok (kd u) 5 (kd t) 5 (0 : Int32) (0 : Int32) (24 : Int32)) ∧ ∀ M6 : zM, (M6 = zcpy M5 u 5 t 5 ((0 : Int32)).toNatClampNeg ((0 : Int32)).toNatClampNeg ((24 : Int32)).toNatClampNeg) → (zcpok (kd u) 6 (kd t) 6 (0 : Int32) (0 : Int32) (24 : Int32)) ∧ ∀ M7 : zM, (M7 = zcpy M6 u 6 t 6 ((0 : Int32)).toNatClampNeg ((0 : Int32)).toNatClampNeg ((24 : Int32)).toNatClampNeg) → K none M7) : X 0 [some (zR t 0), some (zR u 0)] [] M := hX 54 0 _ [] M (show (kd u = 3) ∧ (kd t = 3) ∧ ∀ M1 : zM, (M1 = zmw M t 0 (upd (M.1 t 0) 6 (M.1 u 0 6))) → (kd u = 3) ∧ (kd t = 3) ∧ (zcpok (kd u) 1 (kd t) 1 (0 : Int32) (0 : Int32) (6 : Int32)) ∧ ∀ M2 : zM, (M2 = zcpy M1 u 1 t 1 ((0 : Int32)).toNatClampNeg ((0 : Int32)).toNatClampNeg ((6 : Int32)).toNatClampNeg) → (kd u = 3) ∧ (kd t = 3) ∧ (zcpok (kd u) 2 (kd t) 2 (0 : Int32) (0 : Int32) (24 : Int32)) ∧ ∀ M3 : zM, (M3 = zcpy M2 u 2 t 2 ((0 : Int32)).toNatClampNeg ((0 : Int32)).toNatClampNeg ((24 : Int32)).toNatClampNeg) → (kd u = 3) ∧ (kd t = 3) ∧ (zcpok (kd u) 3 (kd t) 3 (0 : Int32) (0 : Int32) (24 : Int32)) ∧ ∀ M4 : zM, (M4 = zcpy M3 u 3 t 3 ((0 : Int32)).toNatClampNeg ((0 : Int32)).toNatClampNeg ((24 : Int32)).toNatClampNeg) → (kd u = 3) ∧ (kd t = 3) ∧ (zcpok (kd u) 4 (kd t) 4 (0 : Int32) (0 : Int32) (24 : Int32)) ∧ ∀ M5 : zM, (M5 = zcpy M4 u 4 t 4 ((0 : Int32)).toNatClampNeg ((0 : Int32)).toNatClampNeg ((24 : Int32)).toNatClampNeg) → (kd u = 3) ∧ (kd t = 3) ∧ (zcpok (kd u) 5 (kd t) 5 (0 : Int32) (0 : Int32) (24 : Int32)) ∧ ∀ M6 : zM, (M6 = zcpy M5 u 5 t 5 ((0 : Int32)).toNatClampNeg ((0 : Int32)).toNatClampNeg ((24 : Int32)).toNatClampNeg) → (kd u = 3) ∧ (kd t = 3) ∧ (zcpok (kd u) 6 (kd t) 6 (0 : Int32) (0 : Int32) (24 : Int32)) ∧ ∀ M7 : zM, (M7 = zcpy M6 u 6 t 6 ((0 : Int32)).toNatClampNeg ((0 : Int32)).toNatClampNeg ((24 : Int32)).toNatClampNeg) → K none M7 from ⟨hk1, ⟨hk0, fun M1 => have h := h M1; fun q => have h := h q; ⟨hk1, ⟨hk0, ⟨h.1, have h := h.2; fun M2 => have h := h M2; fun q => have h := h q; ⟨hk1, ⟨hk0, ⟨h.1, have h := h.2; fun M3 => have h := h M3; fun q => have h := h q; ⟨hk1, ⟨hk0, ⟨h.1, have h := h.2; fun M4 => have h := h M4; fun q => have h := h q; ⟨hk1, ⟨hk0, ⟨h.1, have h := h.2; fun M5 => have h := h M5; fun q => have h := h q; ⟨hk1, ⟨hk0, ⟨h.1, have h := h.2; fun M6 => have h := h M6; fun q => have h := h q; ⟨hk1, ⟨hk0, ⟨h.1, have h := h.2; fun M7 => have h := h M7; fun q => have h := h q; h⟩⟩⟩⟩⟩⟩⟩⟩⟩⟩⟩⟩⟩⟩⟩⟩⟩⟩⟩⟩)
def sp_X3_field : zSpec := fun kd as M K => match as with
  | [.inr (.inr (.inl (t, 0))), .inl q, .inl w] => (kd t = 3) ∧ ∃ a : Sk, (RpS (M.1 t) a) ∧ ∃ c : Nat, ∃ i : Nat, ∃ l : Ly, (c < 6) ∧ ((a.1 c)[i]? = some l) ∧ (q.toInt = 4 * (c : Int) + i) ∧ ∀ v : Int32, (v.toInt = ly_f l w.toInt) → K (some (.inl v)) M
  | _ => False
theorem rv_X3_field : zrv sp_X3_field 3 2 := by
  intro kd as M K h
  unfold sp_X3_field at h
  split at h
  · exact ⟨_, _, rfl, h.1⟩
  · exact h.elim
theorem dd_X3_field_0 : decode cX3_field 0 = .ok (.iload_n 1, 1) := by decide +kernel
theorem dd_X3_field_1 : decode cX3_field 1 = .ok (.ifCond .lt 9, 3) := by decide +kernel
theorem dd_X3_field_4 : decode cX3_field 4 = .ok (.iload_n 1, 1) := by decide +kernel
theorem dd_X3_field_5 : decode cX3_field 5 = .ok (.bipush 24, 2) := by decide +kernel
theorem dd_X3_field_7 : decode cX3_field 7 = .ok (.if_icmp .lt 5, 3) := by decide +kernel
theorem dd_X3_field_10 : decode cX3_field 10 = .ok (.iconst (-1), 1) := by decide +kernel
theorem dd_X3_field_11 : decode cX3_field 11 = .ok (.ireturn, 1) := by decide +kernel
theorem dd_X3_field_12 : decode cX3_field 12 = .ok (.iload_n 2, 1) := by decide +kernel
theorem dd_X3_field_13 : decode cX3_field 13 = .ok (.tableswitch 59 0 3 #[31, 38, 45, 52], 31) := by decide +kernel
theorem dd_X3_field_44 : decode cX3_field 44 = .ok (.aload_n 0, 1) := by decide +kernel
theorem dd_X3_field_45 : decode cX3_field 45 = .ok (.getfield 15, 3) := by decide +kernel
theorem dd_X3_field_48 : decode cX3_field 48 = .ok (.iload_n 1, 1) := by decide +kernel
theorem dd_X3_field_49 : decode cX3_field 49 = .ok (.iaload, 1) := by decide +kernel
theorem dd_X3_field_50 : decode cX3_field 50 = .ok (.ireturn, 1) := by decide +kernel
theorem dd_X3_field_51 : decode cX3_field 51 = .ok (.aload_n 0, 1) := by decide +kernel
theorem dd_X3_field_52 : decode cX3_field 52 = .ok (.getfield 18, 3) := by decide +kernel
theorem dd_X3_field_55 : decode cX3_field 55 = .ok (.iload_n 1, 1) := by decide +kernel
theorem dd_X3_field_56 : decode cX3_field 56 = .ok (.iaload, 1) := by decide +kernel
theorem dd_X3_field_57 : decode cX3_field 57 = .ok (.ireturn, 1) := by decide +kernel
theorem dd_X3_field_58 : decode cX3_field 58 = .ok (.aload_n 0, 1) := by decide +kernel
theorem dd_X3_field_59 : decode cX3_field 59 = .ok (.getfield 21, 3) := by decide +kernel
theorem dd_X3_field_62 : decode cX3_field 62 = .ok (.iload_n 1, 1) := by decide +kernel
theorem dd_X3_field_63 : decode cX3_field 63 = .ok (.iaload, 1) := by decide +kernel
theorem dd_X3_field_64 : decode cX3_field 64 = .ok (.ireturn, 1) := by decide +kernel
theorem dd_X3_field_65 : decode cX3_field 65 = .ok (.aload_n 0, 1) := by decide +kernel
theorem dd_X3_field_66 : decode cX3_field 66 = .ok (.getfield 24, 3) := by decide +kernel
theorem dd_X3_field_69 : decode cX3_field 69 = .ok (.iload_n 1, 1) := by decide +kernel
theorem dd_X3_field_70 : decode cX3_field 70 = .ok (.iaload, 1) := by decide +kernel
theorem dd_X3_field_71 : decode cX3_field 71 = .ok (.ireturn, 1) := by decide +kernel
theorem dd_X3_field_72 : decode cX3_field 72 = .ok (.aload_n 0, 1) := by decide +kernel
theorem dd_X3_field_73 : decode cX3_field 73 = .ok (.getfield 27, 3) := by decide +kernel
theorem dd_X3_field_76 : decode cX3_field 76 = .ok (.iload_n 1, 1) := by decide +kernel
theorem dd_X3_field_77 : decode cX3_field 77 = .ok (.iaload, 1) := by decide +kernel
theorem dd_X3_field_78 : decode cX3_field 78 = .ok (.ireturn, 1) := by decide +kernel
def tb_X3_field (kd : Nat → Nat) (K : zK) : zTab := [(0, zt_iload 1 1), (1, zt_if (fun x => x < 0) (fun x => ¬ x < 0) 10 4), (4, zt_iload 1 5), (5, zt_const (zI 24) 7), (7, zt_icmp (fun x y => x < y) (fun x y => ¬ x < y) 12 10), (10, zt_const (zI (-1)) 11), (11, zt_iret K), (12, zt_iload 2 13), (13, zt_sw [(0, 44), (1, 51), (2, 58), (3, 65)] 72), (44, zt_aload 0 45), (45, zt_getR kd 3 0 2 48), (48, zt_iload 1 49), (49, zt_ald kd 0 50), (50, zt_iret K), (51, zt_aload 0 52), (52, zt_getR kd 3 0 3 55), (55, zt_iload 1 56), (56, zt_ald kd 0 57), (57, zt_iret K), (58, zt_aload 0 59), (59, zt_getR kd 3 0 4 62), (62, zt_iload 1 63), (63, zt_ald kd 0 64), (64, zt_iret K), (65, zt_aload 0 66), (66, zt_getR kd 3 0 5 69), (69, zt_iload 1 70), (70, zt_ald kd 0 71), (71, zt_iret K), (72, zt_aload 0 73), (73, zt_getR kd 3 0 6 76), (76, zt_iload 1 77), (77, zt_ald kd 0 78), (78, zt_iret K)]
set_option maxRecDepth 20000 in
theorem tk_X3_field (d : Nat)  : zTrue RX3 cX3_field 3 (some .int) (d + 1) (fun kd K => tb_X3_field kd K) := by
  intro p l e R s m args below meth c D cy A ad bl Qm K C0 hr hlocks hQ
  obtain ⟨hx, hb, hml, hown, hts, hK, hD, hA0, hN, hE, ⟨hR1, hR2⟩, hc1, hc2⟩ := id C0
  unfold tb_X3_field
  refine List.forall_mem_cons.mpr ⟨ok_iload_n hx hb rfl dd_X3_field_0, ?_⟩
  refine List.forall_mem_cons.mpr ⟨ok_if_lt hx hb dd_X3_field_1 (by decide), ?_⟩
  refine List.forall_mem_cons.mpr ⟨ok_iload_n hx hb rfl dd_X3_field_4, ?_⟩
  refine List.forall_mem_cons.mpr ⟨ok_bipush hx hb dd_X3_field_5 (by decide), ?_⟩
  refine List.forall_mem_cons.mpr ⟨ok_icmp_lt hx hb dd_X3_field_7 (by decide), ?_⟩
  refine List.forall_mem_cons.mpr ⟨ok_iconst hx hb dd_X3_field_10 (by decide), ?_⟩
  refine List.forall_mem_cons.mpr ⟨ok_iret hx hb hr hlocks hQ dd_X3_field_11, ?_⟩
  refine List.forall_mem_cons.mpr ⟨ok_iload_n hx hb rfl dd_X3_field_12, ?_⟩
  refine List.forall_mem_cons.mpr ⟨ok_tsw hx hb dd_X3_field_13 (by decide) (by decide) (fun k hk => by rcases (show k = 0 ∨ k = 1 ∨ k = 2 ∨ k = 3 by simp at hk; omega) with rfl | rfl | rfl | rfl <;> exact ⟨_, _, rfl, by decide, rfl, by decide⟩), ?_⟩
  refine List.forall_mem_cons.mpr ⟨ok_aload_n hx hb rfl dd_X3_field_44, ?_⟩
  refine List.forall_mem_cons.mpr ⟨ok_getR (j := 1) hx hb hts zi_X3 hown hK zc_X3 (by decide) rfl (fun t fl h => by cases h; rfl) (hts _ wd_138) dd_X3_field_45, ?_⟩
  refine List.forall_mem_cons.mpr ⟨ok_iload_n hx hb rfl dd_X3_field_48, ?_⟩
  refine List.forall_mem_cons.mpr ⟨ok_ald (ty := 0) rfl hx hb hK (Or.inl ⟨rfl, rfl, dd_X3_field_49⟩), ?_⟩
  refine List.forall_mem_cons.mpr ⟨ok_iret hx hb hr hlocks hQ dd_X3_field_50, ?_⟩
  refine List.forall_mem_cons.mpr ⟨ok_aload_n hx hb rfl dd_X3_field_51, ?_⟩
  refine List.forall_mem_cons.mpr ⟨ok_getR (j := 2) hx hb hts zi_X3 hown hK zc_X3 (by decide) rfl (fun t fl h => by cases h; rfl) (hts _ wd_139) dd_X3_field_52, ?_⟩
  refine List.forall_mem_cons.mpr ⟨ok_iload_n hx hb rfl dd_X3_field_55, ?_⟩
  refine List.forall_mem_cons.mpr ⟨ok_ald (ty := 0) rfl hx hb hK (Or.inl ⟨rfl, rfl, dd_X3_field_56⟩), ?_⟩
  refine List.forall_mem_cons.mpr ⟨ok_iret hx hb hr hlocks hQ dd_X3_field_57, ?_⟩
  refine List.forall_mem_cons.mpr ⟨ok_aload_n hx hb rfl dd_X3_field_58, ?_⟩
  refine List.forall_mem_cons.mpr ⟨ok_getR (j := 3) hx hb hts zi_X3 hown hK zc_X3 (by decide) rfl (fun t fl h => by cases h; rfl) (hts _ wd_140) dd_X3_field_59, ?_⟩
  refine List.forall_mem_cons.mpr ⟨ok_iload_n hx hb rfl dd_X3_field_62, ?_⟩
  refine List.forall_mem_cons.mpr ⟨ok_ald (ty := 0) rfl hx hb hK (Or.inl ⟨rfl, rfl, dd_X3_field_63⟩), ?_⟩
  refine List.forall_mem_cons.mpr ⟨ok_iret hx hb hr hlocks hQ dd_X3_field_64, ?_⟩
  refine List.forall_mem_cons.mpr ⟨ok_aload_n hx hb rfl dd_X3_field_65, ?_⟩
  refine List.forall_mem_cons.mpr ⟨ok_getR (j := 4) hx hb hts zi_X3 hown hK zc_X3 (by decide) rfl (fun t fl h => by cases h; rfl) (hts _ wd_141) dd_X3_field_66, ?_⟩
  refine List.forall_mem_cons.mpr ⟨ok_iload_n hx hb rfl dd_X3_field_69, ?_⟩
  refine List.forall_mem_cons.mpr ⟨ok_ald (ty := 0) rfl hx hb hK (Or.inl ⟨rfl, rfl, dd_X3_field_70⟩), ?_⟩
  refine List.forall_mem_cons.mpr ⟨ok_iret hx hb hr hlocks hQ dd_X3_field_71, ?_⟩
  refine List.forall_mem_cons.mpr ⟨ok_aload_n hx hb rfl dd_X3_field_72, ?_⟩
  refine List.forall_mem_cons.mpr ⟨ok_getR (j := 5) hx hb hts zi_X3 hown hK zc_X3 (by decide) rfl (fun t fl h => by cases h; rfl) (hts _ wd_142) dd_X3_field_73, ?_⟩
  refine List.forall_mem_cons.mpr ⟨ok_iload_n hx hb rfl dd_X3_field_76, ?_⟩
  refine List.forall_mem_cons.mpr ⟨ok_ald (ty := 0) rfl hx hb hK (Or.inl ⟨rfl, rfl, dd_X3_field_77⟩), ?_⟩
  refine List.forall_mem_cons.mpr ⟨ok_iret hx hb hr hlocks hQ dd_X3_field_78, ?_⟩
  exact fun _ h => absurd h List.not_mem_nil
set_option maxRecDepth 100000 in
theorem vc_X3_field_0 {kd : Nat → Nat} {K : zK} {X : zX} (hX : ∀ (n pc : Nat) (ls : zLS) (st : List zV) (M : zM), zrun (tb_X3_field kd K) [] n X pc ls st M → X pc ls st M) {t : Nat} {q : Int32} {w : Int32} {M : zM} (hk0 : kd t = 3) (h : ((q < 0) → K (some (zI ((-1 : Int32)))) M) ∧ ((¬ q < 0) → ((q < (24 : Int32)) → ((w = 0) → (zin (kd t) 2 0 q) ∧ K (some (zI (M.1 t 2 (q).toNatClampNeg))) M) ∧ ((¬ w = 0) → ((w = 1) → (zin (kd t) 3 0 q) ∧ K (some (zI (M.1 t 3 (q).toNatClampNeg))) M) ∧ ((¬ w = 1) → ((w = 2) → (zin (kd t) 4 0 q) ∧ K (some (zI (M.1 t 4 (q).toNatClampNeg))) M) ∧ ((¬ w = 2) → ((w = 3) → (zin (kd t) 5 0 q) ∧ K (some (zI (M.1 t 5 (q).toNatClampNeg))) M) ∧ ((¬ w = 3) → (zin (kd t) 6 0 q) ∧ K (some (zI (M.1 t 6 (q).toNatClampNeg))) M))))) ∧ ((¬ q < (24 : Int32)) → K (some (zI ((-1 : Int32)))) M))) : X 0 [some (zR t 0), some (zI (q)), some (zI (w))] [] M := hX 13 0 _ [] M (show ((q < 0) → K (some (zI ((-1 : Int32)))) M) ∧ ((¬ q < 0) → ((q < (24 : Int32)) → ((w = 0) → (kd t = 3) ∧ (zin (kd t) 2 0 q) ∧ K (some (zI (M.1 t 2 (q).toNatClampNeg))) M) ∧ ((¬ w = 0) → ((w = 1) → (kd t = 3) ∧ (zin (kd t) 3 0 q) ∧ K (some (zI (M.1 t 3 (q).toNatClampNeg))) M) ∧ ((¬ w = 1) → ((w = 2) → (kd t = 3) ∧ (zin (kd t) 4 0 q) ∧ K (some (zI (M.1 t 4 (q).toNatClampNeg))) M) ∧ ((¬ w = 2) → ((w = 3) → (kd t = 3) ∧ (zin (kd t) 5 0 q) ∧ K (some (zI (M.1 t 5 (q).toNatClampNeg))) M) ∧ ((¬ w = 3) → (kd t = 3) ∧ (zin (kd t) 6 0 q) ∧ K (some (zI (M.1 t 6 (q).toNatClampNeg))) M))))) ∧ ((¬ q < (24 : Int32)) → K (some (zI ((-1 : Int32)))) M)) from ⟨fun q => have h := h.1 q; h, fun q => have h := h.2 q; ⟨fun q => have h := h.1 q; ⟨fun q => have h := h.1 q; ⟨hk0, ⟨h.1, have h := h.2; h⟩⟩, fun q => have h := h.2 q; ⟨fun q => have h := h.1 q; ⟨hk0, ⟨h.1, have h := h.2; h⟩⟩, fun q => have h := h.2 q; ⟨fun q => have h := h.1 q; ⟨hk0, ⟨h.1, have h := h.2; h⟩⟩, fun q => have h := h.2 q; ⟨fun q => have h := h.1 q; ⟨hk0, ⟨h.1, have h := h.2; h⟩⟩, fun q => have h := h.2 q; ⟨hk0, ⟨h.1, have h := h.2; h⟩⟩⟩⟩⟩⟩, fun q => have h := h.2 q; h⟩⟩)
def sp_X3_layersInAll : zSpec := fun kd as M K => match as with
  | [.inr (.inr (.inl (t, 0)))] => (kd t = 3) ∧ ∃ a : Sk, (RpS (M.1 t) a) ∧ ∀ v : Int32, (v.toInt = sk_all a) → K (some (.inl v)) M
  | _ => False
theorem rv_X3_layersInAll : zrv sp_X3_layersInAll 3 0 := by
  intro kd as M K h
  unfold sp_X3_layersInAll at h
  split at h
  · exact ⟨_, _, rfl, h.1⟩
  · exact h.elim
theorem dd_X3_layersInAll_0 : decode cX3_layersInAll 0 = .ok (.iconst 0, 1) := by decide +kernel
theorem dd_X3_layersInAll_1 : decode cX3_layersInAll 1 = .ok (.istore_n 1, 1) := by decide +kernel
theorem dd_X3_layersInAll_2 : decode cX3_layersInAll 2 = .ok (.iconst 0, 1) := by decide +kernel
theorem dd_X3_layersInAll_3 : decode cX3_layersInAll 3 = .ok (.istore_n 2, 1) := by decide +kernel
theorem dd_X3_layersInAll_4 : decode cX3_layersInAll 4 = .ok (.iload_n 2, 1) := by decide +kernel
theorem dd_X3_layersInAll_5 : decode cX3_layersInAll 5 = .ok (.bipush 6, 2) := by decide +kernel
theorem dd_X3_layersInAll_7 : decode cX3_layersInAll 7 = .ok (.if_icmp .ge 18, 3) := by decide +kernel
theorem dd_X3_layersInAll_10 : decode cX3_layersInAll 10 = .ok (.iload_n 1, 1) := by decide +kernel
theorem dd_X3_layersInAll_11 : decode cX3_layersInAll 11 = .ok (.aload_n 0, 1) := by decide +kernel
theorem dd_X3_layersInAll_12 : decode cX3_layersInAll 12 = .ok (.getfield 9, 3) := by decide +kernel
theorem dd_X3_layersInAll_15 : decode cX3_layersInAll 15 = .ok (.iload_n 2, 1) := by decide +kernel
theorem dd_X3_layersInAll_16 : decode cX3_layersInAll 16 = .ok (.iaload, 1) := by decide +kernel
theorem dd_X3_layersInAll_17 : decode cX3_layersInAll 17 = .ok (.iadd, 1) := by decide +kernel
theorem dd_X3_layersInAll_18 : decode cX3_layersInAll 18 = .ok (.istore_n 1, 1) := by decide +kernel
theorem dd_X3_layersInAll_19 : decode cX3_layersInAll 19 = .ok (.iinc 2 1, 3) := by decide +kernel
theorem dd_X3_layersInAll_22 : decode cX3_layersInAll 22 = .ok (.goto (-18), 3) := by decide +kernel
theorem dd_X3_layersInAll_25 : decode cX3_layersInAll 25 = .ok (.iload_n 1, 1) := by decide +kernel
theorem dd_X3_layersInAll_26 : decode cX3_layersInAll 26 = .ok (.ireturn, 1) := by decide +kernel
def tb_X3_layersInAll (kd : Nat → Nat) (K : zK) : zTab := [(0, zt_const (zI 0) 1), (1, zt_istore 1 2), (2, zt_const (zI 0) 3), (3, zt_istore 2 4), (4, zt_iload 2 5), (5, zt_const (zI 6) 7), (7, zt_icmp (fun x y => y ≤ x) (fun x y => ¬ y ≤ x) 25 10), (10, zt_iload 1 11), (11, zt_aload 0 12), (12, zt_getR kd 3 0 1 15), (15, zt_iload 2 16), (16, zt_ald kd 0 17), (17, zt_bin (fun x y => x + y) 18), (18, zt_istore 1 19), (19, zt_iinc 2 1 22), (22, zt_goto 4), (25, zt_iload 1 26), (26, zt_iret K)]
set_option maxRecDepth 20000 in
theorem tk_X3_layersInAll (d : Nat)  : zTrue RX3 cX3_layersInAll 3 (some .int) (d + 1) (fun kd K => tb_X3_layersInAll kd K) := by
  intro p l e R s m args below meth c D cy A ad bl Qm K C0 hr hlocks hQ
  obtain ⟨hx, hb, hml, hown, hts, hK, hD, hA0, hN, hE, ⟨hR1, hR2⟩, hc1, hc2⟩ := id C0
  unfold tb_X3_layersInAll
  refine List.forall_mem_cons.mpr ⟨ok_iconst hx hb dd_X3_layersInAll_0 (by decide), ?_⟩
  refine List.forall_mem_cons.mpr ⟨ok_istore_n hx hb rfl dd_X3_layersInAll_1, ?_⟩
  refine List.forall_mem_cons.mpr ⟨ok_iconst hx hb dd_X3_layersInAll_2 (by decide), ?_⟩
  refine List.forall_mem_cons.mpr ⟨ok_istore_n hx hb rfl dd_X3_layersInAll_3, ?_⟩
  refine List.forall_mem_cons.mpr ⟨ok_iload_n hx hb rfl dd_X3_layersInAll_4, ?_⟩
  refine List.forall_mem_cons.mpr ⟨ok_bipush hx hb dd_X3_layersInAll_5 (by decide), ?_⟩
  refine List.forall_mem_cons.mpr ⟨ok_icmp_ge hx hb dd_X3_layersInAll_7 (by decide), ?_⟩
  refine List.forall_mem_cons.mpr ⟨ok_iload_n hx hb rfl dd_X3_layersInAll_10, ?_⟩
  refine List.forall_mem_cons.mpr ⟨ok_aload_n hx hb rfl dd_X3_layersInAll_11, ?_⟩
  refine List.forall_mem_cons.mpr ⟨ok_getR (j := 0) hx hb hts zi_X3 hown hK zc_X3 (by decide) rfl (fun t fl h => by cases h; rfl) (hts _ wd_136) dd_X3_layersInAll_12, ?_⟩
  refine List.forall_mem_cons.mpr ⟨ok_iload_n hx hb rfl dd_X3_layersInAll_15, ?_⟩
  refine List.forall_mem_cons.mpr ⟨ok_ald (ty := 0) rfl hx hb hK (Or.inl ⟨rfl, rfl, dd_X3_layersInAll_16⟩), ?_⟩
  refine List.forall_mem_cons.mpr ⟨ok_iadd hx hb dd_X3_layersInAll_17, ?_⟩
  refine List.forall_mem_cons.mpr ⟨ok_istore_n hx hb rfl dd_X3_layersInAll_18, ?_⟩
  refine List.forall_mem_cons.mpr ⟨ok_iinc hx hb dd_X3_layersInAll_19 (by decide), ?_⟩
  refine List.forall_mem_cons.mpr ⟨ok_goto hx hb dd_X3_layersInAll_22 (by decide), ?_⟩
  refine List.forall_mem_cons.mpr ⟨ok_iload_n hx hb rfl dd_X3_layersInAll_25, ?_⟩
  refine List.forall_mem_cons.mpr ⟨ok_iret hx hb hr hlocks hQ dd_X3_layersInAll_26, ?_⟩
  exact fun _ h => absurd h List.not_mem_nil
set_option maxRecDepth 100000 in
theorem vc_X3_layersInAll_0 {kd : Nat → Nat} {K : zK} {X : zX} (hX : ∀ (n pc : Nat) (ls : zLS) (st : List zV) (M : zM), zrun (tb_X3_layersInAll kd K) [(4, [])] n X pc ls st M → X pc ls st M) {t : Nat} {M : zM}  (h : X 4 [some (zR t 0), some (zI ((0 : Int32))), some (zI ((0 : Int32)))] [] M) : X 0 [some (zR t 0), none, none] [] M := hX 6 0 _ [] M (show X 4 [some (zR t 0), some (zI ((0 : Int32))), some (zI ((0 : Int32)))] [] M from h)
set_option maxRecDepth 100000 in
theorem vc_X3_layersInAll_4 {kd : Nat → Nat} {K : zK} {X : zX} (hX : ∀ (n pc : Nat) (ls : zLS) (st : List zV) (M : zM), zrun (tb_X3_layersInAll kd K) [(4, [])] n X pc ls st M → X pc ls st M) {t : Nat} {s : Int32} {c : Int32} {M : zM} (hk0 : kd t = 3) (h : (((6 : Int32) ≤ c) → K (some (zI (s))) M) ∧ ((¬ (6 : Int32) ≤ c) → (zin (kd t) 1 0 c) ∧ X 4 [some (zR t 0), some (zI (s + (M.1 t 1 (c).toNatClampNeg))), some (zI (c + 1))] [] M)) : X 4 [some (zR t 0), some (zI (s)), some (zI (c))] [] M := hX 14 4 _ [] M (show (((6 : Int32) ≤ c) → K (some (zI (s))) M) ∧ ((¬ (6 : Int32) ≤ c) → (kd t = 3) ∧ (zin (kd t) 1 0 c) ∧ X 4 [some (zR t 0), some (zI (s + (M.1 t 1 (c).toNatClampNeg))), some (zI (c + 1))] [] M) from ⟨fun q => have h := h.1 q; h, fun q => have h := h.2 q; ⟨hk0, ⟨h.1, have h := h.2; h⟩⟩⟩)
def sp_X3_opens : zSpec := fun kd as M K => match as with
  | [.inr (.inr (.inl (t, 0))), .inl k, .inl q] => (kd t = 3) ∧ ∃ a : Sk, (RpS (M.1 t) a) ∧ ∃ c : Nat, ∃ i : Nat, ∃ l : Ly, (c < 6) ∧ ((a.1 c)[i]? = some l) ∧ (q.toInt = 4 * (c : Int) + i) ∧ ∀ v : Int32, (v.toInt = opn k.toInt l) → K (some (.inl v)) M
  | _ => False
theorem rv_X3_opens : zrv sp_X3_opens 3 2 := by
  intro kd as M K h
  unfold sp_X3_opens at h
  split at h
  · exact ⟨_, _, rfl, h.1⟩
  · exact h.elim
theorem dd_X3_opens_0 : decode cX3_opens 0 = .ok (.iload_n 2, 1) := by decide +kernel
theorem dd_X3_opens_1 : decode cX3_opens 1 = .ok (.ifCond .lt 9, 3) := by decide +kernel
theorem dd_X3_opens_4 : decode cX3_opens 4 = .ok (.iload_n 2, 1) := by decide +kernel
theorem dd_X3_opens_5 : decode cX3_opens 5 = .ok (.bipush 24, 2) := by decide +kernel
theorem dd_X3_opens_7 : decode cX3_opens 7 = .ok (.if_icmp .lt 6, 3) := by decide +kernel
theorem dd_X3_opens_10 : decode cX3_opens 10 = .ok (.ldc 73, 2) := by decide +kernel
theorem dd_X3_opens_12 : decode cX3_opens 12 = .ok (.ireturn, 1) := by decide +kernel
theorem dd_X3_opens_13 : decode cX3_opens 13 = .ok (.iload_n 1, 1) := by decide +kernel
theorem dd_X3_opens_14 : decode cX3_opens 14 = .ok (.iconst 1, 1) := by decide +kernel
theorem dd_X3_opens_15 : decode cX3_opens 15 = .ok (.if_icmp .eq 8, 3) := by decide +kernel
theorem dd_X3_opens_18 : decode cX3_opens 18 = .ok (.iload_n 1, 1) := by decide +kernel
theorem dd_X3_opens_19 : decode cX3_opens 19 = .ok (.iconst 5, 1) := by decide +kernel
theorem dd_X3_opens_20 : decode cX3_opens 20 = .ok (.if_icmp .ne 25, 3) := by decide +kernel
theorem dd_X3_opens_23 : decode cX3_opens 23 = .ok (.aload_n 0, 1) := by decide +kernel
theorem dd_X3_opens_24 : decode cX3_opens 24 = .ok (.getfield 27, 3) := by decide +kernel
theorem dd_X3_opens_27 : decode cX3_opens 27 = .ok (.iload_n 2, 1) := by decide +kernel
theorem dd_X3_opens_28 : decode cX3_opens 28 = .ok (.iaload, 1) := by decide +kernel
theorem dd_X3_opens_29 : decode cX3_opens 29 = .ok (.iconst (-1), 1) := by decide +kernel
theorem dd_X3_opens_30 : decode cX3_opens 30 = .ok (.if_icmp .ne 8, 3) := by decide +kernel
theorem dd_X3_opens_33 : decode cX3_opens 33 = .ok (.ldc 73, 2) := by decide +kernel
theorem dd_X3_opens_35 : decode cX3_opens 35 = .ok (.goto 9, 3) := by decide +kernel
theorem dd_X3_opens_38 : decode cX3_opens 38 = .ok (.aload_n 0, 1) := by decide +kernel
theorem dd_X3_opens_39 : decode cX3_opens 39 = .ok (.getfield 27, 3) := by decide +kernel
theorem dd_X3_opens_42 : decode cX3_opens 42 = .ok (.iload_n 2, 1) := by decide +kernel
theorem dd_X3_opens_43 : decode cX3_opens 43 = .ok (.iaload, 1) := by decide +kernel
theorem dd_X3_opens_44 : decode cX3_opens 44 = .ok (.ireturn, 1) := by decide +kernel
theorem dd_X3_opens_45 : decode cX3_opens 45 = .ok (.aload_n 0, 1) := by decide +kernel
theorem dd_X3_opens_46 : decode cX3_opens 46 = .ok (.getfield 24, 3) := by decide +kernel
theorem dd_X3_opens_49 : decode cX3_opens 49 = .ok (.iload_n 2, 1) := by decide +kernel
theorem dd_X3_opens_50 : decode cX3_opens 50 = .ok (.iaload, 1) := by decide +kernel
theorem dd_X3_opens_51 : decode cX3_opens 51 = .ok (.ireturn, 1) := by decide +kernel
def tb_X3_opens (kd : Nat → Nat) (K : zK) : zTab := [(0, zt_iload 2 1), (1, zt_if (fun x => x < 0) (fun x => ¬ x < 0) 10 4), (4, zt_iload 2 5), (5, zt_const (zI 24) 7), (7, zt_icmp (fun x y => x < y) (fun x y => ¬ x < y) 13 10), (10, zt_const (zI 1000000) 12), (12, zt_iret K), (13, zt_iload 1 14), (14, zt_const (zI 1) 15), (15, zt_icmp (fun x y => x = y) (fun x y => ¬ x = y) 23 18), (18, zt_iload 1 19), (19, zt_const (zI 5) 20), (20, zt_icmp (fun x y => ¬ x = y) (fun x y => x = y) 45 23), (23, zt_aload 0 24), (24, zt_getR kd 3 0 6 27), (27, zt_iload 2 28), (28, zt_ald kd 0 29), (29, zt_const (zI (-1)) 30), (30, zt_icmp (fun x y => ¬ x = y) (fun x y => x = y) 38 33), (33, zt_const (zI 1000000) 35), (35, zt_goto 44), (38, zt_aload 0 39), (39, zt_getR kd 3 0 6 42), (42, zt_iload 2 43), (43, zt_ald kd 0 44), (44, zt_iret K), (45, zt_aload 0 46), (46, zt_getR kd 3 0 5 49), (49, zt_iload 2 50), (50, zt_ald kd 0 51), (51, zt_iret K)]
set_option maxRecDepth 20000 in
theorem tk_X3_opens (d : Nat)  : zTrue RX3 cX3_opens 3 (some .int) (d + 1) (fun kd K => tb_X3_opens kd K) := by
  intro p l e R s m args below meth c D cy A ad bl Qm K C0 hr hlocks hQ
  obtain ⟨hx, hb, hml, hown, hts, hK, hD, hA0, hN, hE, ⟨hR1, hR2⟩, hc1, hc2⟩ := id C0
  unfold tb_X3_opens
  refine List.forall_mem_cons.mpr ⟨ok_iload_n hx hb rfl dd_X3_opens_0, ?_⟩
  refine List.forall_mem_cons.mpr ⟨ok_if_lt hx hb dd_X3_opens_1 (by decide), ?_⟩
  refine List.forall_mem_cons.mpr ⟨ok_iload_n hx hb rfl dd_X3_opens_4, ?_⟩
  refine List.forall_mem_cons.mpr ⟨ok_bipush hx hb dd_X3_opens_5 (by decide), ?_⟩
  refine List.forall_mem_cons.mpr ⟨ok_icmp_lt hx hb dd_X3_opens_7 (by decide), ?_⟩
  refine List.forall_mem_cons.mpr ⟨ok_ldc hx hb hown (hts _ wd_563) dd_X3_opens_10, ?_⟩
  refine List.forall_mem_cons.mpr ⟨ok_iret hx hb hr hlocks hQ dd_X3_opens_12, ?_⟩
  refine List.forall_mem_cons.mpr ⟨ok_iload_n hx hb rfl dd_X3_opens_13, ?_⟩
  refine List.forall_mem_cons.mpr ⟨ok_iconst hx hb dd_X3_opens_14 (by decide), ?_⟩
  refine List.forall_mem_cons.mpr ⟨ok_icmp_eq hx hb dd_X3_opens_15 (by decide), ?_⟩
  refine List.forall_mem_cons.mpr ⟨ok_iload_n hx hb rfl dd_X3_opens_18, ?_⟩
  refine List.forall_mem_cons.mpr ⟨ok_iconst hx hb dd_X3_opens_19 (by decide), ?_⟩
  refine List.forall_mem_cons.mpr ⟨ok_icmp_ne hx hb dd_X3_opens_20 (by decide), ?_⟩
  refine List.forall_mem_cons.mpr ⟨ok_aload_n hx hb rfl dd_X3_opens_23, ?_⟩
  refine List.forall_mem_cons.mpr ⟨ok_getR (j := 5) hx hb hts zi_X3 hown hK zc_X3 (by decide) rfl (fun t fl h => by cases h; rfl) (hts _ wd_142) dd_X3_opens_24, ?_⟩
  refine List.forall_mem_cons.mpr ⟨ok_iload_n hx hb rfl dd_X3_opens_27, ?_⟩
  refine List.forall_mem_cons.mpr ⟨ok_ald (ty := 0) rfl hx hb hK (Or.inl ⟨rfl, rfl, dd_X3_opens_28⟩), ?_⟩
  refine List.forall_mem_cons.mpr ⟨ok_iconst hx hb dd_X3_opens_29 (by decide), ?_⟩
  refine List.forall_mem_cons.mpr ⟨ok_icmp_ne hx hb dd_X3_opens_30 (by decide), ?_⟩
  refine List.forall_mem_cons.mpr ⟨ok_ldc hx hb hown (hts _ wd_563) dd_X3_opens_33, ?_⟩
  refine List.forall_mem_cons.mpr ⟨ok_goto hx hb dd_X3_opens_35 (by decide), ?_⟩
  refine List.forall_mem_cons.mpr ⟨ok_aload_n hx hb rfl dd_X3_opens_38, ?_⟩
  refine List.forall_mem_cons.mpr ⟨ok_getR (j := 5) hx hb hts zi_X3 hown hK zc_X3 (by decide) rfl (fun t fl h => by cases h; rfl) (hts _ wd_142) dd_X3_opens_39, ?_⟩
  refine List.forall_mem_cons.mpr ⟨ok_iload_n hx hb rfl dd_X3_opens_42, ?_⟩
  refine List.forall_mem_cons.mpr ⟨ok_ald (ty := 0) rfl hx hb hK (Or.inl ⟨rfl, rfl, dd_X3_opens_43⟩), ?_⟩
  refine List.forall_mem_cons.mpr ⟨ok_iret hx hb hr hlocks hQ dd_X3_opens_44, ?_⟩
  refine List.forall_mem_cons.mpr ⟨ok_aload_n hx hb rfl dd_X3_opens_45, ?_⟩
  refine List.forall_mem_cons.mpr ⟨ok_getR (j := 4) hx hb hts zi_X3 hown hK zc_X3 (by decide) rfl (fun t fl h => by cases h; rfl) (hts _ wd_141) dd_X3_opens_46, ?_⟩
  refine List.forall_mem_cons.mpr ⟨ok_iload_n hx hb rfl dd_X3_opens_49, ?_⟩
  refine List.forall_mem_cons.mpr ⟨ok_ald (ty := 0) rfl hx hb hK (Or.inl ⟨rfl, rfl, dd_X3_opens_50⟩), ?_⟩
  refine List.forall_mem_cons.mpr ⟨ok_iret hx hb hr hlocks hQ dd_X3_opens_51, ?_⟩
  exact fun _ h => absurd h List.not_mem_nil
set_option maxRecDepth 100000 in
theorem vc_X3_opens_0 {kd : Nat → Nat} {K : zK} {X : zX} (hX : ∀ (n pc : Nat) (ls : zLS) (st : List zV) (M : zM), zrun (tb_X3_opens kd K) [] n X pc ls st M → X pc ls st M) {t : Nat} {k : Int32} {q : Int32} {M : zM} (hk0 : kd t = 3) (h : ((q < 0) → K (some (zI ((1000000 : Int32)))) M) ∧ ((¬ q < 0) → ((q < (24 : Int32)) → ((k = (1 : Int32)) → (zin (kd t) 6 0 q) ∧ ((¬ (M.1 t 6 (q).toNatClampNeg) = (-1 : Int32)) → (zin (kd t) 6 0 q) ∧ K (some (zI (M.1 t 6 (q).toNatClampNeg))) M) ∧ (((M.1 t 6 (q).toNatClampNeg) = (-1 : Int32)) → K (some (zI ((1000000 : Int32)))) M)) ∧ ((¬ k = (1 : Int32)) → ((¬ k = (5 : Int32)) → (zin (kd t) 5 0 q) ∧ K (some (zI (M.1 t 5 (q).toNatClampNeg))) M) ∧ ((k = (5 : Int32)) → (zin (kd t) 6 0 q) ∧ ((¬ (M.1 t 6 (q).toNatClampNeg) = (-1 : Int32)) → (zin (kd t) 6 0 q) ∧ K (some (zI (M.1 t 6 (q).toNatClampNeg))) M) ∧ (((M.1 t 6 (q).toNatClampNeg) = (-1 : Int32)) → K (some (zI ((1000000 : Int32)))) M)))) ∧ ((¬ q < (24 : Int32)) → K (some (zI ((1000000 : Int32)))) M))) : X 0 [some (zR t 0), some (zI (k)), some (zI (q))] [] M := hX 23 0 _ [] M (show ((q < 0) → K (some (zI ((1000000 : Int32)))) M) ∧ ((¬ q < 0) → ((q < (24 : Int32)) → ((k = (1 : Int32)) → (kd t = 3) ∧ (zin (kd t) 6 0 q) ∧ ((¬ (M.1 t 6 (q).toNatClampNeg) = (-1 : Int32)) → (kd t = 3) ∧ (zin (kd t) 6 0 q) ∧ K (some (zI (M.1 t 6 (q).toNatClampNeg))) M) ∧ (((M.1 t 6 (q).toNatClampNeg) = (-1 : Int32)) → K (some (zI ((1000000 : Int32)))) M)) ∧ ((¬ k = (1 : Int32)) → ((¬ k = (5 : Int32)) → (kd t = 3) ∧ (zin (kd t) 5 0 q) ∧ K (some (zI (M.1 t 5 (q).toNatClampNeg))) M) ∧ ((k = (5 : Int32)) → (kd t = 3) ∧ (zin (kd t) 6 0 q) ∧ ((¬ (M.1 t 6 (q).toNatClampNeg) = (-1 : Int32)) → (kd t = 3) ∧ (zin (kd t) 6 0 q) ∧ K (some (zI (M.1 t 6 (q).toNatClampNeg))) M) ∧ (((M.1 t 6 (q).toNatClampNeg) = (-1 : Int32)) → K (some (zI ((1000000 : Int32)))) M)))) ∧ ((¬ q < (24 : Int32)) → K (some (zI ((1000000 : Int32)))) M)) from ⟨fun q => have h := h.1 q; h, fun q => have h := h.2 q; ⟨fun q => have h := h.1 q; ⟨fun q => have h := h.1 q; ⟨hk0, ⟨h.1, have h := h.2; ⟨fun q => have h := h.1 q; ⟨hk0, ⟨h.1, have h := h.2; h⟩⟩, fun q => have h := h.2 q; h⟩⟩⟩, fun q => have h := h.2 q; ⟨fun q => have h := h.1 q; ⟨hk0, ⟨h.1, have h := h.2; h⟩⟩, fun q => have h := h.2 q; ⟨hk0, ⟨h.1, have h := h.2; ⟨fun q => have h := h.1 q; ⟨hk0, ⟨h.1, have h := h.2; h⟩⟩, fun q => have h := h.2 q; h⟩⟩⟩⟩⟩, fun q => have h := h.2 q; h⟩⟩)
def sp_X3_weight : zSpec := fun kd as M K => match as with
  | [.inl k, .inl s] => (0 ≤ s.toInt ∧ s.toInt ≤ 999) ∧ ∀ v : Int32, (v.toInt = cntK k.toInt s.toInt) → K (some (.inl v)) M
  | _ => False
theorem dd_X3_weight_0 : decode cX3_weight 0 = .ok (.iload_n 0, 1) := by decide +kernel
theorem dd_X3_weight_1 : decode cX3_weight 1 = .ok (.tableswitch 43 2 5 #[31, 43, 35, 39], 31) := by decide +kernel
theorem dd_X3_weight_32 : decode cX3_weight 32 = .ok (.iload_n 1, 1) := by decide +kernel
theorem dd_X3_weight_33 : decode cX3_weight 33 = .ok (.iconst 2, 1) := by decide +kernel
theorem dd_X3_weight_34 : decode cX3_weight 34 = .ok (.idiv, 1) := by decide +kernel
theorem dd_X3_weight_35 : decode cX3_weight 35 = .ok (.ireturn, 1) := by decide +kernel
theorem dd_X3_weight_36 : decode cX3_weight 36 = .ok (.iload_n 1, 1) := by decide +kernel
theorem dd_X3_weight_37 : decode cX3_weight 37 = .ok (.iconst 2, 1) := by decide +kernel
theorem dd_X3_weight_38 : decode cX3_weight 38 = .ok (.imul, 1) := by decide +kernel
theorem dd_X3_weight_39 : decode cX3_weight 39 = .ok (.ireturn, 1) := by decide +kernel
theorem dd_X3_weight_40 : decode cX3_weight 40 = .ok (.iload_n 1, 1) := by decide +kernel
theorem dd_X3_weight_41 : decode cX3_weight 41 = .ok (.iconst 3, 1) := by decide +kernel
theorem dd_X3_weight_42 : decode cX3_weight 42 = .ok (.iadd, 1) := by decide +kernel
theorem dd_X3_weight_43 : decode cX3_weight 43 = .ok (.ireturn, 1) := by decide +kernel
theorem dd_X3_weight_44 : decode cX3_weight 44 = .ok (.iload_n 1, 1) := by decide +kernel
theorem dd_X3_weight_45 : decode cX3_weight 45 = .ok (.ireturn, 1) := by decide +kernel
def tb_X3_weight (kd : Nat → Nat) (K : zK) : zTab := [(0, zt_iload 0 1), (1, zt_sw [(2, 32), (3, 44), (4, 36), (5, 40)] 44), (32, zt_iload 1 33), (33, zt_const (zI 2) 34), (34, zt_div (fun x y => x / y) 35), (35, zt_iret K), (36, zt_iload 1 37), (37, zt_const (zI 2) 38), (38, zt_bin (fun x y => x * y) 39), (39, zt_iret K), (40, zt_iload 1 41), (41, zt_const (zI 3) 42), (42, zt_bin (fun x y => x + y) 43), (43, zt_iret K), (44, zt_iload 1 45), (45, zt_iret K)]
set_option maxRecDepth 20000 in
theorem tk_X3_weight (d : Nat)  : zTrue RX3 cX3_weight 2 (some .int) (d + 1) (fun kd K => tb_X3_weight kd K) := by
  intro p l e R s m args below meth c D cy A ad bl Qm K C0 hr hlocks hQ
  obtain ⟨hx, hb, hml, hown, hts, hK, hD, hA0, hN, hE, ⟨hR1, hR2⟩, hc1, hc2⟩ := id C0
  unfold tb_X3_weight
  refine List.forall_mem_cons.mpr ⟨ok_iload_n hx hb rfl dd_X3_weight_0, ?_⟩
  refine List.forall_mem_cons.mpr ⟨ok_tsw hx hb dd_X3_weight_1 (by decide) (by decide) (fun k hk => by rcases (show k = 0 ∨ k = 1 ∨ k = 2 ∨ k = 3 by simp at hk; omega) with rfl | rfl | rfl | rfl <;> exact ⟨_, _, rfl, by decide, rfl, by decide⟩), ?_⟩
  refine List.forall_mem_cons.mpr ⟨ok_iload_n hx hb rfl dd_X3_weight_32, ?_⟩
  refine List.forall_mem_cons.mpr ⟨ok_iconst hx hb dd_X3_weight_33 (by decide), ?_⟩
  refine List.forall_mem_cons.mpr ⟨ok_idiv hx hb dd_X3_weight_34, ?_⟩
  refine List.forall_mem_cons.mpr ⟨ok_iret hx hb hr hlocks hQ dd_X3_weight_35, ?_⟩
  refine List.forall_mem_cons.mpr ⟨ok_iload_n hx hb rfl dd_X3_weight_36, ?_⟩
  refine List.forall_mem_cons.mpr ⟨ok_iconst hx hb dd_X3_weight_37 (by decide), ?_⟩
  refine List.forall_mem_cons.mpr ⟨ok_imul hx hb dd_X3_weight_38, ?_⟩
  refine List.forall_mem_cons.mpr ⟨ok_iret hx hb hr hlocks hQ dd_X3_weight_39, ?_⟩
  refine List.forall_mem_cons.mpr ⟨ok_iload_n hx hb rfl dd_X3_weight_40, ?_⟩
  refine List.forall_mem_cons.mpr ⟨ok_iconst hx hb dd_X3_weight_41 (by decide), ?_⟩
  refine List.forall_mem_cons.mpr ⟨ok_iadd hx hb dd_X3_weight_42, ?_⟩
  refine List.forall_mem_cons.mpr ⟨ok_iret hx hb hr hlocks hQ dd_X3_weight_43, ?_⟩
  refine List.forall_mem_cons.mpr ⟨ok_iload_n hx hb rfl dd_X3_weight_44, ?_⟩
  refine List.forall_mem_cons.mpr ⟨ok_iret hx hb hr hlocks hQ dd_X3_weight_45, ?_⟩
  exact fun _ h => absurd h List.not_mem_nil
set_option maxRecDepth 100000 in
theorem vc_X3_weight_0 {kd : Nat → Nat} {K : zK} {X : zX} (hX : ∀ (n pc : Nat) (ls : zLS) (st : List zV) (M : zM), zrun (tb_X3_weight kd K) [] n X pc ls st M → X pc ls st M) {k : Int32} {s : Int32} {M : zM}  (h : ((k = 2) → K (some (zI (s / (2 : Int32)))) M) ∧ ((¬ k = 2) → ((k = 3) → K (some (zI (s))) M) ∧ ((¬ k = 3) → ((k = 4) → K (some (zI (s * (2 : Int32)))) M) ∧ ((¬ k = 4) → ((k = 5) → K (some (zI (s + (3 : Int32)))) M) ∧ ((¬ k = 5) → K (some (zI (s))) M))))) : X 0 [some (zI (k)), some (zI (s))] [] M := hX 7 0 _ [] M (show ((k = 2) → (¬ (2 : Int32) = 0) ∧ K (some (zI (s / (2 : Int32)))) M) ∧ ((¬ k = 2) → ((k = 3) → K (some (zI (s))) M) ∧ ((¬ k = 3) → ((k = 4) → K (some (zI (s * (2 : Int32)))) M) ∧ ((¬ k = 4) → ((k = 5) → K (some (zI (s + (3 : Int32)))) M) ∧ ((¬ k = 5) → K (some (zI (s))) M)))) from ⟨fun q => have h := h.1 q; ⟨(by decide), h⟩, fun q => have h := h.2 q; ⟨fun q => have h := h.1 q; h, fun q => have h := h.2 q; ⟨fun q => have h := h.1 q; h, fun q => have h := h.2 q; ⟨fun q => have h := h.1 q; h, fun q => have h := h.2 q; h⟩⟩⟩⟩)
def sp_X3_shuts : zSpec := fun kd as M K => match as with
  | [.inr (.inr (.inl (t, 0))), .inl k, .inl q, .inl o] => (kd t = 3) ∧ ∃ a : Sk, (RpS (M.1 t) a) ∧ ∃ c : Nat, ∃ i : Nat, ∃ l : Ly, (c < 6) ∧ ((a.1 c)[i]? = some l) ∧ (q.toInt = 4 * (c : Int) + i) ∧ (o.toInt = if ((a.1 c)[i + 1]?).isSome then 4 * (c : Int) + i + 1 else -1) ∧ ∀ v : Int32, (v.toInt = sht k.toInt l ((a.1 c)[i + 1]?)) → K (some (.inl v)) M
  | _ => False
theorem rv_X3_shuts : zrv sp_X3_shuts 3 3 := by
  intro kd as M K h
  unfold sp_X3_shuts at h
  split at h
  · exact ⟨_, _, rfl, h.1⟩
  · exact h.elim
theorem dd_X3_shuts_0 : decode cX3_shuts 0 = .ok (.iload_n 2, 1) := by decide +kernel
theorem dd_X3_shuts_1 : decode cX3_shuts 1 = .ok (.ifCond .lt 25, 3) := by decide +kernel
theorem dd_X3_shuts_4 : decode cX3_shuts 4 = .ok (.iload_n 2, 1) := by decide +kernel
theorem dd_X3_shuts_5 : decode cX3_shuts 5 = .ok (.bipush 24, 2) := by decide +kernel
theorem dd_X3_shuts_7 : decode cX3_shuts 7 = .ok (.if_icmp .ge 19, 3) := by decide +kernel
theorem dd_X3_shuts_10 : decode cX3_shuts 10 = .ok (.iload_n 3, 1) := by decide +kernel
theorem dd_X3_shuts_11 : decode cX3_shuts 11 = .ok (.bipush 24, 2) := by decide +kernel
theorem dd_X3_shuts_13 : decode cX3_shuts 13 = .ok (.if_icmp .ge 13, 3) := by decide +kernel
theorem dd_X3_shuts_16 : decode cX3_shuts 16 = .ok (.aload_n 0, 1) := by decide +kernel
theorem dd_X3_shuts_17 : decode cX3_shuts 17 = .ok (.getfield 27, 3) := by decide +kernel
theorem dd_X3_shuts_20 : decode cX3_shuts 20 = .ok (.iload_n 2, 1) := by decide +kernel
theorem dd_X3_shuts_21 : decode cX3_shuts 21 = .ok (.iaload, 1) := by decide +kernel
theorem dd_X3_shuts_22 : decode cX3_shuts 22 = .ok (.iconst (-1), 1) := by decide +kernel
theorem dd_X3_shuts_23 : decode cX3_shuts 23 = .ok (.if_icmp .ne 6, 3) := by decide +kernel
theorem dd_X3_shuts_26 : decode cX3_shuts 26 = .ok (.ldc 73, 2) := by decide +kernel
theorem dd_X3_shuts_28 : decode cX3_shuts 28 = .ok (.ireturn, 1) := by decide +kernel
theorem dd_X3_shuts_29 : decode cX3_shuts 29 = .ok (.iload_n 1, 1) := by decide +kernel
theorem dd_X3_shuts_30 : decode cX3_shuts 30 = .ok (.iconst 3, 1) := by decide +kernel
theorem dd_X3_shuts_31 : decode cX3_shuts 31 = .ok (.if_icmp .ne 10, 3) := by decide +kernel
theorem dd_X3_shuts_34 : decode cX3_shuts 34 = .ok (.aload_n 0, 1) := by decide +kernel
theorem dd_X3_shuts_35 : decode cX3_shuts 35 = .ok (.getfield 27, 3) := by decide +kernel
theorem dd_X3_shuts_38 : decode cX3_shuts 38 = .ok (.iload_n 2, 1) := by decide +kernel
theorem dd_X3_shuts_39 : decode cX3_shuts 39 = .ok (.iaload, 1) := by decide +kernel
theorem dd_X3_shuts_40 : decode cX3_shuts 40 = .ok (.ireturn, 1) := by decide +kernel
theorem dd_X3_shuts_41 : decode cX3_shuts 41 = .ok (.iload_n 3, 1) := by decide +kernel
theorem dd_X3_shuts_42 : decode cX3_shuts 42 = .ok (.ifCond .ge 6, 3) := by decide +kernel
theorem dd_X3_shuts_45 : decode cX3_shuts 45 = .ok (.ldc 73, 2) := by decide +kernel
theorem dd_X3_shuts_47 : decode cX3_shuts 47 = .ok (.ireturn, 1) := by decide +kernel
theorem dd_X3_shuts_48 : decode cX3_shuts 48 = .ok (.aload_n 0, 1) := by decide +kernel
theorem dd_X3_shuts_49 : decode cX3_shuts 49 = .ok (.getfield 24, 3) := by decide +kernel
theorem dd_X3_shuts_52 : decode cX3_shuts 52 = .ok (.iload_n 3, 1) := by decide +kernel
theorem dd_X3_shuts_53 : decode cX3_shuts 53 = .ok (.iaload, 1) := by decide +kernel
theorem dd_X3_shuts_54 : decode cX3_shuts 54 = .ok (.iload_n 1, 1) := by decide +kernel
theorem dd_X3_shuts_55 : decode cX3_shuts 55 = .ok (.aload_n 0, 1) := by decide +kernel
theorem dd_X3_shuts_56 : decode cX3_shuts 56 = .ok (.getfield 27, 3) := by decide +kernel
theorem dd_X3_shuts_59 : decode cX3_shuts 59 = .ok (.iload_n 2, 1) := by decide +kernel
theorem dd_X3_shuts_60 : decode cX3_shuts 60 = .ok (.iaload, 1) := by decide +kernel
theorem dd_X3_shuts_61 : decode cX3_shuts 61 = .ok (.aload_n 0, 1) := by decide +kernel
theorem dd_X3_shuts_62 : decode cX3_shuts 62 = .ok (.getfield 24, 3) := by decide +kernel
theorem dd_X3_shuts_65 : decode cX3_shuts 65 = .ok (.iload_n 2, 1) := by decide +kernel
theorem dd_X3_shuts_66 : decode cX3_shuts 66 = .ok (.iaload, 1) := by decide +kernel
theorem dd_X3_shuts_67 : decode cX3_shuts 67 = .ok (.isub, 1) := by decide +kernel
theorem dd_X3_shuts_68 : decode cX3_shuts 68 = .ok (.invokestatic 74, 3) := by decide +kernel
theorem dd_X3_shuts_71 : decode cX3_shuts 71 = .ok (.iadd, 1) := by decide +kernel
theorem dd_X3_shuts_72 : decode cX3_shuts 72 = .ok (.istore 4, 2) := by decide +kernel
theorem dd_X3_shuts_74 : decode cX3_shuts 74 = .ok (.aload_n 0, 1) := by decide +kernel
theorem dd_X3_shuts_75 : decode cX3_shuts 75 = .ok (.getfield 27, 3) := by decide +kernel
theorem dd_X3_shuts_78 : decode cX3_shuts 78 = .ok (.iload_n 3, 1) := by decide +kernel
theorem dd_X3_shuts_79 : decode cX3_shuts 79 = .ok (.iaload, 1) := by decide +kernel
theorem dd_X3_shuts_80 : decode cX3_shuts 80 = .ok (.iconst (-1), 1) := by decide +kernel
theorem dd_X3_shuts_81 : decode cX3_shuts 81 = .ok (.if_icmp .eq 18, 3) := by decide +kernel
theorem dd_X3_shuts_84 : decode cX3_shuts 84 = .ok (.aload_n 0, 1) := by decide +kernel
theorem dd_X3_shuts_85 : decode cX3_shuts 85 = .ok (.getfield 27, 3) := by decide +kernel
theorem dd_X3_shuts_88 : decode cX3_shuts 88 = .ok (.iload_n 3, 1) := by decide +kernel
theorem dd_X3_shuts_89 : decode cX3_shuts 89 = .ok (.iaload, 1) := by decide +kernel
theorem dd_X3_shuts_90 : decode cX3_shuts 90 = .ok (.iload 4, 2) := by decide +kernel
theorem dd_X3_shuts_92 : decode cX3_shuts 92 = .ok (.if_icmp .ge 7, 3) := by decide +kernel
theorem dd_X3_shuts_95 : decode cX3_shuts 95 = .ok (.iconst 1, 1) := by decide +kernel
theorem dd_X3_shuts_96 : decode cX3_shuts 96 = .ok (.goto 4, 3) := by decide +kernel
theorem dd_X3_shuts_99 : decode cX3_shuts 99 = .ok (.iconst 0, 1) := by decide +kernel
theorem dd_X3_shuts_100 : decode cX3_shuts 100 = .ok (.istore 5, 2) := by decide +kernel
theorem dd_X3_shuts_102 : decode cX3_shuts 102 = .ok (.iload 5, 2) := by decide +kernel
theorem dd_X3_shuts_104 : decode cX3_shuts 104 = .ok (.ifCond .eq 8, 3) := by decide +kernel
theorem dd_X3_shuts_107 : decode cX3_shuts 107 = .ok (.ldc 73, 2) := by decide +kernel
theorem dd_X3_shuts_109 : decode cX3_shuts 109 = .ok (.goto 5, 3) := by decide +kernel
theorem dd_X3_shuts_112 : decode cX3_shuts 112 = .ok (.iload 4, 2) := by decide +kernel
theorem dd_X3_shuts_114 : decode cX3_shuts 114 = .ok (.ireturn, 1) := by decide +kernel
def tb_X3_shuts (kd : Nat → Nat) (K : zK) : zTab := [(0, zt_iload 2 1), (1, zt_if (fun x => x < 0) (fun x => ¬ x < 0) 26 4), (4, zt_iload 2 5), (5, zt_const (zI 24) 7), (7, zt_icmp (fun x y => y ≤ x) (fun x y => ¬ y ≤ x) 26 10), (10, zt_iload 3 11), (11, zt_const (zI 24) 13), (13, zt_icmp (fun x y => y ≤ x) (fun x y => ¬ y ≤ x) 26 16), (16, zt_aload 0 17), (17, zt_getR kd 3 0 6 20), (20, zt_iload 2 21), (21, zt_ald kd 0 22), (22, zt_const (zI (-1)) 23), (23, zt_icmp (fun x y => ¬ x = y) (fun x y => x = y) 29 26), (26, zt_const (zI 1000000) 28), (28, zt_iret K), (29, zt_iload 1 30), (30, zt_const (zI 3) 31), (31, zt_icmp (fun x y => ¬ x = y) (fun x y => x = y) 41 34), (34, zt_aload 0 35), (35, zt_getR kd 3 0 6 38), (38, zt_iload 2 39), (39, zt_ald kd 0 40), (40, zt_iret K), (41, zt_iload 3 42), (42, zt_if (fun x => 0 ≤ x) (fun x => ¬ 0 ≤ x) 48 45), (45, zt_const (zI 1000000) 47), (47, zt_iret K), (48, zt_aload 0 49), (49, zt_getR kd 3 0 5 52), (52, zt_iload 3 53), (53, zt_ald kd 0 54), (54, zt_iload 1 55), (55, zt_aload 0 56), (56, zt_getR kd 3 0 6 59), (59, zt_iload 2 60), (60, zt_ald kd 0 61), (61, zt_aload 0 62), (62, zt_getR kd 3 0 5 65), (65, zt_iload 2 66), (66, zt_ald kd 0 67), (67, zt_bin (fun x y => x - y) 68), (68, zt_call kd sp_X3_weight 2 71), (71, zt_bin (fun x y => x + y) 72), (72, zt_istore 4 74), (74, zt_aload 0 75), (75, zt_getR kd 3 0 6 78), (78, zt_iload 3 79), (79, zt_ald kd 0 80), (80, zt_const (zI (-1)) 81), (81, zt_icmp (fun x y => x = y) (fun x y => ¬ x = y) 99 84), (84, zt_aload 0 85), (85, zt_getR kd 3 0 6 88), (88, zt_iload 3 89), (89, zt_ald kd 0 90), (90, zt_iload 4 92), (92, zt_icmp (fun x y => y ≤ x) (fun x y => ¬ y ≤ x) 99 95), (95, zt_const (zI 1) 96), (96, zt_goto 100), (99, zt_const (zI 0) 100), (100, zt_istore 5 102), (102, zt_iload 5 104), (104, zt_if (fun x => x = 0) (fun x => ¬ x = 0) 112 107), (107, zt_const (zI 1000000) 109), (109, zt_goto 114), (112, zt_iload 4 114), (114, zt_iret K)]
set_option maxRecDepth 20000 in
theorem tk_X3_shuts (d : Nat) (h_X3_weight : zMS 1 yX3_weight cX3_weight 2 (some .int) sp_X3_weight) : zTrue RX3 cX3_shuts 6 (some .int) (d + 2) (fun kd K => tb_X3_shuts kd K) := by
  intro p l e R s m args below meth c D cy A ad bl Qm K C0 hr hlocks hQ
  obtain ⟨hx, hb, hml, hown, hts, hK, hD, hA0, hN, hE, ⟨hR1, hR2⟩, hc1, hc2⟩ := id C0
  unfold tb_X3_shuts
  refine List.forall_mem_cons.mpr ⟨ok_iload_n hx hb rfl dd_X3_shuts_0, ?_⟩
  refine List.forall_mem_cons.mpr ⟨ok_if_lt hx hb dd_X3_shuts_1 (by decide), ?_⟩
  refine List.forall_mem_cons.mpr ⟨ok_iload_n hx hb rfl dd_X3_shuts_4, ?_⟩
  refine List.forall_mem_cons.mpr ⟨ok_bipush hx hb dd_X3_shuts_5 (by decide), ?_⟩
  refine List.forall_mem_cons.mpr ⟨ok_icmp_ge hx hb dd_X3_shuts_7 (by decide), ?_⟩
  refine List.forall_mem_cons.mpr ⟨ok_iload_n hx hb rfl dd_X3_shuts_10, ?_⟩
  refine List.forall_mem_cons.mpr ⟨ok_bipush hx hb dd_X3_shuts_11 (by decide), ?_⟩
  refine List.forall_mem_cons.mpr ⟨ok_icmp_ge hx hb dd_X3_shuts_13 (by decide), ?_⟩
  refine List.forall_mem_cons.mpr ⟨ok_aload_n hx hb rfl dd_X3_shuts_16, ?_⟩
  refine List.forall_mem_cons.mpr ⟨ok_getR (j := 5) hx hb hts zi_X3 hown hK zc_X3 (by decide) rfl (fun t fl h => by cases h; rfl) (hts _ wd_142) dd_X3_shuts_17, ?_⟩
  refine List.forall_mem_cons.mpr ⟨ok_iload_n hx hb rfl dd_X3_shuts_20, ?_⟩
  refine List.forall_mem_cons.mpr ⟨ok_ald (ty := 0) rfl hx hb hK (Or.inl ⟨rfl, rfl, dd_X3_shuts_21⟩), ?_⟩
  refine List.forall_mem_cons.mpr ⟨ok_iconst hx hb dd_X3_shuts_22 (by decide), ?_⟩
  refine List.forall_mem_cons.mpr ⟨ok_icmp_ne hx hb dd_X3_shuts_23 (by decide), ?_⟩
  refine List.forall_mem_cons.mpr ⟨ok_ldc hx hb hown (hts _ wd_563) dd_X3_shuts_26, ?_⟩
  refine List.forall_mem_cons.mpr ⟨ok_iret hx hb hr hlocks hQ dd_X3_shuts_28, ?_⟩
  refine List.forall_mem_cons.mpr ⟨ok_iload_n hx hb rfl dd_X3_shuts_29, ?_⟩
  refine List.forall_mem_cons.mpr ⟨ok_iconst hx hb dd_X3_shuts_30 (by decide), ?_⟩
  refine List.forall_mem_cons.mpr ⟨ok_icmp_ne hx hb dd_X3_shuts_31 (by decide), ?_⟩
  refine List.forall_mem_cons.mpr ⟨ok_aload_n hx hb rfl dd_X3_shuts_34, ?_⟩
  refine List.forall_mem_cons.mpr ⟨ok_getR (j := 5) hx hb hts zi_X3 hown hK zc_X3 (by decide) rfl (fun t fl h => by cases h; rfl) (hts _ wd_142) dd_X3_shuts_35, ?_⟩
  refine List.forall_mem_cons.mpr ⟨ok_iload_n hx hb rfl dd_X3_shuts_38, ?_⟩
  refine List.forall_mem_cons.mpr ⟨ok_ald (ty := 0) rfl hx hb hK (Or.inl ⟨rfl, rfl, dd_X3_shuts_39⟩), ?_⟩
  refine List.forall_mem_cons.mpr ⟨ok_iret hx hb hr hlocks hQ dd_X3_shuts_40, ?_⟩
  refine List.forall_mem_cons.mpr ⟨ok_iload_n hx hb rfl dd_X3_shuts_41, ?_⟩
  refine List.forall_mem_cons.mpr ⟨ok_if_ge hx hb dd_X3_shuts_42 (by decide), ?_⟩
  refine List.forall_mem_cons.mpr ⟨ok_ldc hx hb hown (hts _ wd_563) dd_X3_shuts_45, ?_⟩
  refine List.forall_mem_cons.mpr ⟨ok_iret hx hb hr hlocks hQ dd_X3_shuts_47, ?_⟩
  refine List.forall_mem_cons.mpr ⟨ok_aload_n hx hb rfl dd_X3_shuts_48, ?_⟩
  refine List.forall_mem_cons.mpr ⟨ok_getR (j := 4) hx hb hts zi_X3 hown hK zc_X3 (by decide) rfl (fun t fl h => by cases h; rfl) (hts _ wd_141) dd_X3_shuts_49, ?_⟩
  refine List.forall_mem_cons.mpr ⟨ok_iload_n hx hb rfl dd_X3_shuts_52, ?_⟩
  refine List.forall_mem_cons.mpr ⟨ok_ald (ty := 0) rfl hx hb hK (Or.inl ⟨rfl, rfl, dd_X3_shuts_53⟩), ?_⟩
  refine List.forall_mem_cons.mpr ⟨ok_iload_n hx hb rfl dd_X3_shuts_54, ?_⟩
  refine List.forall_mem_cons.mpr ⟨ok_aload_n hx hb rfl dd_X3_shuts_55, ?_⟩
  refine List.forall_mem_cons.mpr ⟨ok_getR (j := 5) hx hb hts zi_X3 hown hK zc_X3 (by decide) rfl (fun t fl h => by cases h; rfl) (hts _ wd_142) dd_X3_shuts_56, ?_⟩
  refine List.forall_mem_cons.mpr ⟨ok_iload_n hx hb rfl dd_X3_shuts_59, ?_⟩
  refine List.forall_mem_cons.mpr ⟨ok_ald (ty := 0) rfl hx hb hK (Or.inl ⟨rfl, rfl, dd_X3_shuts_60⟩), ?_⟩
  refine List.forall_mem_cons.mpr ⟨ok_aload_n hx hb rfl dd_X3_shuts_61, ?_⟩
  refine List.forall_mem_cons.mpr ⟨ok_getR (j := 4) hx hb hts zi_X3 hown hK zc_X3 (by decide) rfl (fun t fl h => by cases h; rfl) (hts _ wd_141) dd_X3_shuts_62, ?_⟩
  refine List.forall_mem_cons.mpr ⟨ok_iload_n hx hb rfl dd_X3_shuts_65, ?_⟩
  refine List.forall_mem_cons.mpr ⟨ok_ald (ty := 0) rfl hx hb hK (Or.inl ⟨rfl, rfl, dd_X3_shuts_66⟩), ?_⟩
  refine List.forall_mem_cons.mpr ⟨ok_isub hx hb dd_X3_shuts_67, ?_⟩
  refine List.forall_mem_cons.mpr ⟨ok_callS (n := 2) C0 (h_X3_weight (d + 1) (by omega)) (by decide) wd_570 wd_568 wd_569 wd_102 ⟨by decide +kernel, by decide +kernel, by decide +kernel⟩ dd_X3_shuts_68, ?_⟩
  refine List.forall_mem_cons.mpr ⟨ok_iadd hx hb dd_X3_shuts_71, ?_⟩
  refine List.forall_mem_cons.mpr ⟨ok_istore hx hb dd_X3_shuts_72, ?_⟩
  refine List.forall_mem_cons.mpr ⟨ok_aload_n hx hb rfl dd_X3_shuts_74, ?_⟩
  refine List.forall_mem_cons.mpr ⟨ok_getR (j := 5) hx hb hts zi_X3 hown hK zc_X3 (by decide) rfl (fun t fl h => by cases h; rfl) (hts _ wd_142) dd_X3_shuts_75, ?_⟩
  refine List.forall_mem_cons.mpr ⟨ok_iload_n hx hb rfl dd_X3_shuts_78, ?_⟩
  refine List.forall_mem_cons.mpr ⟨ok_ald (ty := 0) rfl hx hb hK (Or.inl ⟨rfl, rfl, dd_X3_shuts_79⟩), ?_⟩
  refine List.forall_mem_cons.mpr ⟨ok_iconst hx hb dd_X3_shuts_80 (by decide), ?_⟩
  refine List.forall_mem_cons.mpr ⟨ok_icmp_eq hx hb dd_X3_shuts_81 (by decide), ?_⟩
  refine List.forall_mem_cons.mpr ⟨ok_aload_n hx hb rfl dd_X3_shuts_84, ?_⟩
  refine List.forall_mem_cons.mpr ⟨ok_getR (j := 5) hx hb hts zi_X3 hown hK zc_X3 (by decide) rfl (fun t fl h => by cases h; rfl) (hts _ wd_142) dd_X3_shuts_85, ?_⟩
  refine List.forall_mem_cons.mpr ⟨ok_iload_n hx hb rfl dd_X3_shuts_88, ?_⟩
  refine List.forall_mem_cons.mpr ⟨ok_ald (ty := 0) rfl hx hb hK (Or.inl ⟨rfl, rfl, dd_X3_shuts_89⟩), ?_⟩
  refine List.forall_mem_cons.mpr ⟨ok_iload hx hb dd_X3_shuts_90, ?_⟩
  refine List.forall_mem_cons.mpr ⟨ok_icmp_ge hx hb dd_X3_shuts_92 (by decide), ?_⟩
  refine List.forall_mem_cons.mpr ⟨ok_iconst hx hb dd_X3_shuts_95 (by decide), ?_⟩
  refine List.forall_mem_cons.mpr ⟨ok_goto hx hb dd_X3_shuts_96 (by decide), ?_⟩
  refine List.forall_mem_cons.mpr ⟨ok_iconst hx hb dd_X3_shuts_99 (by decide), ?_⟩
  refine List.forall_mem_cons.mpr ⟨ok_istore hx hb dd_X3_shuts_100, ?_⟩
  refine List.forall_mem_cons.mpr ⟨ok_iload hx hb dd_X3_shuts_102, ?_⟩
  refine List.forall_mem_cons.mpr ⟨ok_if_eq hx hb dd_X3_shuts_104 (by decide), ?_⟩
  refine List.forall_mem_cons.mpr ⟨ok_ldc hx hb hown (hts _ wd_563) dd_X3_shuts_107, ?_⟩
  refine List.forall_mem_cons.mpr ⟨ok_goto hx hb dd_X3_shuts_109 (by decide), ?_⟩
  refine List.forall_mem_cons.mpr ⟨ok_iload hx hb dd_X3_shuts_112, ?_⟩
  refine List.forall_mem_cons.mpr ⟨ok_iret hx hb hr hlocks hQ dd_X3_shuts_114, ?_⟩
  exact fun _ h => absurd h List.not_mem_nil
set_option maxRecDepth 100000 in
theorem vc_X3_shuts_0 {kd : Nat → Nat} {K : zK} {X : zX} (hX : ∀ (n pc : Nat) (ls : zLS) (st : List zV) (M : zM), zrun (tb_X3_shuts kd K) [] n X pc ls st M → X pc ls st M) {t : Nat} {k : Int32} {q : Int32} {o : Int32} {M : zM} (hk0 : kd t = 3) (h : ((q < 0) → K (some (zI ((1000000 : Int32)))) M) ∧ ((¬ q < 0) → (((24 : Int32) ≤ q) → K (some (zI ((1000000 : Int32)))) M) ∧ ((¬ (24 : Int32) ≤ q) → (((24 : Int32) ≤ o) → K (some (zI ((1000000 : Int32)))) M) ∧ ((¬ (24 : Int32) ≤ o) → (zin (kd t) 6 0 q) ∧ ((¬ (M.1 t 6 (q).toNatClampNeg) = (-1 : Int32)) → ((¬ k = (3 : Int32)) → ((0 ≤ o) → (zin (kd t) 5 0 o) ∧ (zin (kd t) 6 0 q) ∧ (zin (kd t) 5 0 q) ∧ (0 ≤ ((M.1 t 6 (q).toNatClampNeg) - (M.1 t 5 (q).toNatClampNeg)).toInt ∧ ((M.1 t 6 (q).toNatClampNeg) - (M.1 t 5 (q).toNatClampNeg)).toInt ≤ 999) ∧ ∀ v1 : Int32, (v1.toInt = cntK k.toInt ((M.1 t 6 (q).toNatClampNeg) - (M.1 t 5 (q).toNatClampNeg)).toInt) → (zin (kd t) 6 0 o) ∧ (((M.1 t 6 (o).toNatClampNeg) = (-1 : Int32)) → K (some (zI ((M.1 t 5 (o).toNatClampNeg) + v1))) M) ∧ ((¬ (M.1 t 6 (o).toNatClampNeg) = (-1 : Int32)) → (zin (kd t) 6 0 o) ∧ ((((M.1 t 5 (o).toNatClampNeg) + v1) ≤ (M.1 t 6 (o).toNatClampNeg)) → K (some (zI ((M.1 t 5 (o).toNatClampNeg) + v1))) M) ∧ ((¬ ((M.1 t 5 (o).toNatClampNeg) + v1) ≤ (M.1 t 6 (o).toNatClampNeg)) → K (some (zI ((1000000 : Int32)))) M))) ∧ ((¬ 0 ≤ o) → K (some (zI ((1000000 : Int32)))) M)) ∧ ((k = (3 : Int32)) → (zin (kd t) 6 0 q) ∧ K (some (zI (M.1 t 6 (q).toNatClampNeg))) M)) ∧ (((M.1 t 6 (q).toNatClampNeg) = (-1 : Int32)) → K (some (zI ((1000000 : Int32)))) M))))) : X 0 [some (zR t 0), some (zI (k)), some (zI (q)), some (zI (o)), none, none] [] M := hX 57 0 _ [] M (show ((q < 0) → K (some (zI ((1000000 : Int32)))) M) ∧ ((¬ q < 0) → (((24 : Int32) ≤ q) → K (some (zI ((1000000 : Int32)))) M) ∧ ((¬ (24 : Int32) ≤ q) → (((24 : Int32) ≤ o) → K (some (zI ((1000000 : Int32)))) M) ∧ ((¬ (24 : Int32) ≤ o) → (kd t = 3) ∧ (zin (kd t) 6 0 q) ∧ ((¬ (M.1 t 6 (q).toNatClampNeg) = (-1 : Int32)) → ((¬ k = (3 : Int32)) → ((0 ≤ o) → (kd t = 3) ∧ (zin (kd t) 5 0 o) ∧ (kd t = 3) ∧ (zin (kd t) 6 0 q) ∧ (kd t = 3) ∧ (zin (kd t) 5 0 q) ∧ (0 ≤ ((M.1 t 6 (q).toNatClampNeg) - (M.1 t 5 (q).toNatClampNeg)).toInt ∧ ((M.1 t 6 (q).toNatClampNeg) - (M.1 t 5 (q).toNatClampNeg)).toInt ≤ 999) ∧ ∀ v1 : Int32, (v1.toInt = cntK k.toInt ((M.1 t 6 (q).toNatClampNeg) - (M.1 t 5 (q).toNatClampNeg)).toInt) → (kd t = 3) ∧ (zin (kd t) 6 0 o) ∧ (((M.1 t 6 (o).toNatClampNeg) = (-1 : Int32)) → (((0 : Int32) = 0) → K (some (zI ((M.1 t 5 (o).toNatClampNeg) + v1))) M) ∧ ((¬ (0 : Int32) = 0) → K (some (zI ((1000000 : Int32)))) M)) ∧ ((¬ (M.1 t 6 (o).toNatClampNeg) = (-1 : Int32)) → (kd t = 3) ∧ (zin (kd t) 6 0 o) ∧ ((((M.1 t 5 (o).toNatClampNeg) + v1) ≤ (M.1 t 6 (o).toNatClampNeg)) → (((0 : Int32) = 0) → K (some (zI ((M.1 t 5 (o).toNatClampNeg) + v1))) M) ∧ ((¬ (0 : Int32) = 0) → K (some (zI ((1000000 : Int32)))) M)) ∧ ((¬ ((M.1 t 5 (o).toNatClampNeg) + v1) ≤ (M.1 t 6 (o).toNatClampNeg)) → (((1 : Int32) = 0) → K (some (zI ((M.1 t 5 (o).toNatClampNeg) + v1))) M) ∧ ((¬ (1 : Int32) = 0) → K (some (zI ((1000000 : Int32)))) M)))) ∧ ((¬ 0 ≤ o) → K (some (zI ((1000000 : Int32)))) M)) ∧ ((k = (3 : Int32)) → (kd t = 3) ∧ (zin (kd t) 6 0 q) ∧ K (some (zI (M.1 t 6 (q).toNatClampNeg))) M)) ∧ (((M.1 t 6 (q).toNatClampNeg) = (-1 : Int32)) → K (some (zI ((1000000 : Int32)))) M)))) from ⟨fun q => have h := h.1 q; h, fun q => have h := h.2 q; ⟨fun q => have h := h.1 q; h, fun q => have h := h.2 q; ⟨fun q => have h := h.1 q; h, fun q => have h := h.2 q; ⟨hk0, ⟨h.1, have h := h.2; ⟨fun q => have h := h.1 q; ⟨fun q => have h := h.1 q; ⟨fun q => have h := h.1 q; ⟨hk0, ⟨h.1, have h := h.2; ⟨hk0, ⟨h.1, have h := h.2; ⟨hk0, ⟨h.1, have h := h.2; ⟨h.1, have h := h.2; fun v1 => have h := h v1; fun q => have h := h q; ⟨hk0, ⟨h.1, have h := h.2; ⟨fun q => have h := h.1 q; ⟨fun _ => h, fun q => absurd q (by decide)⟩, fun q => have h := h.2 q; ⟨hk0, ⟨h.1, have h := h.2; ⟨fun q => have h := h.1 q; ⟨fun _ => h, fun q => absurd q (by decide)⟩, fun q => have h := h.2 q; ⟨fun q => absurd q (by decide), fun _ => h⟩⟩⟩⟩⟩⟩⟩⟩⟩⟩⟩⟩⟩⟩, fun q => have h := h.2 q; h⟩, fun q => have h := h.2 q; ⟨hk0, ⟨h.1, have h := h.2; h⟩⟩⟩, fun q => have h := h.2 q; h⟩⟩⟩⟩⟩⟩)
def sp_X3_wouldBind : zSpec := fun kd as M K => match as with
  | [.inr (.inr (.inl (t, 0))), .inl k, .inl c, .inl i, .inl y] => (kd t = 3) ∧ ∃ a : Sk, (RpS (M.1 t) a) ∧ ∃ l : Ly, (sk_at a c.toInt i.toInt = some l) ∧ (0 ≤ y.toInt ∧ y.toInt < 1000000) ∧ ∀ v : Int32, (v = zp (bnd k.toInt l (sk_at a c.toInt (i.toInt + 1)) y.toInt = true)) → K (some (.inl v)) M
  | _ => False
theorem rv_X3_wouldBind : zrv sp_X3_wouldBind 3 4 := by
  intro kd as M K h
  unfold sp_X3_wouldBind at h
  split at h
  · exact ⟨_, _, rfl, h.1⟩
  · exact h.elim
theorem dd_X3_wouldBind_0 : decode cX3_wouldBind 0 = .ok (.aload_n 0, 1) := by decide +kernel
theorem dd_X3_wouldBind_1 : decode cX3_wouldBind 1 = .ok (.iload_n 2, 1) := by decide +kernel
theorem dd_X3_wouldBind_2 : decode cX3_wouldBind 2 = .ok (.iload_n 3, 1) := by decide +kernel
theorem dd_X3_wouldBind_3 : decode cX3_wouldBind 3 = .ok (.invokevirtual 40, 3) := by decide +kernel
theorem dd_X3_wouldBind_6 : decode cX3_wouldBind 6 = .ok (.istore 5, 2) := by decide +kernel
theorem dd_X3_wouldBind_8 : decode cX3_wouldBind 8 = .ok (.aload_n 0, 1) := by decide +kernel
theorem dd_X3_wouldBind_9 : decode cX3_wouldBind 9 = .ok (.iload_n 1, 1) := by decide +kernel
theorem dd_X3_wouldBind_10 : decode cX3_wouldBind 10 = .ok (.iload 5, 2) := by decide +kernel
theorem dd_X3_wouldBind_12 : decode cX3_wouldBind 12 = .ok (.invokevirtual 77, 3) := by decide +kernel
theorem dd_X3_wouldBind_15 : decode cX3_wouldBind 15 = .ok (.iload 4, 2) := by decide +kernel
theorem dd_X3_wouldBind_17 : decode cX3_wouldBind 17 = .ok (.if_icmp .gt 27, 3) := by decide +kernel
theorem dd_X3_wouldBind_20 : decode cX3_wouldBind 20 = .ok (.iload 4, 2) := by decide +kernel
theorem dd_X3_wouldBind_22 : decode cX3_wouldBind 22 = .ok (.aload_n 0, 1) := by decide +kernel
theorem dd_X3_wouldBind_23 : decode cX3_wouldBind 23 = .ok (.iload_n 1, 1) := by decide +kernel
theorem dd_X3_wouldBind_24 : decode cX3_wouldBind 24 = .ok (.iload 5, 2) := by decide +kernel
theorem dd_X3_wouldBind_26 : decode cX3_wouldBind 26 = .ok (.aload_n 0, 1) := by decide +kernel
theorem dd_X3_wouldBind_27 : decode cX3_wouldBind 27 = .ok (.iload_n 2, 1) := by decide +kernel
theorem dd_X3_wouldBind_28 : decode cX3_wouldBind 28 = .ok (.iload_n 3, 1) := by decide +kernel
theorem dd_X3_wouldBind_29 : decode cX3_wouldBind 29 = .ok (.iconst 1, 1) := by decide +kernel
theorem dd_X3_wouldBind_30 : decode cX3_wouldBind 30 = .ok (.iadd, 1) := by decide +kernel
theorem dd_X3_wouldBind_31 : decode cX3_wouldBind 31 = .ok (.invokevirtual 40, 3) := by decide +kernel
theorem dd_X3_wouldBind_34 : decode cX3_wouldBind 34 = .ok (.invokevirtual 80, 3) := by decide +kernel
theorem dd_X3_wouldBind_37 : decode cX3_wouldBind 37 = .ok (.if_icmp .ge 7, 3) := by decide +kernel
theorem dd_X3_wouldBind_40 : decode cX3_wouldBind 40 = .ok (.iconst 1, 1) := by decide +kernel
theorem dd_X3_wouldBind_41 : decode cX3_wouldBind 41 = .ok (.goto 4, 3) := by decide +kernel
theorem dd_X3_wouldBind_44 : decode cX3_wouldBind 44 = .ok (.iconst 0, 1) := by decide +kernel
theorem dd_X3_wouldBind_45 : decode cX3_wouldBind 45 = .ok (.ireturn, 1) := by decide +kernel
def tb_X3_wouldBind (kd : Nat → Nat) (K : zK) : zTab := [(0, zt_aload 0 1), (1, zt_iload 2 2), (2, zt_iload 3 3), (3, zt_call kd sp_X3_slot 3 6), (6, zt_istore 5 8), (8, zt_aload 0 9), (9, zt_iload 1 10), (10, zt_iload 5 12), (12, zt_call kd sp_X3_opens 3 15), (15, zt_iload 4 17), (17, zt_icmp (fun x y => y < x) (fun x y => ¬ y < x) 44 20), (20, zt_iload 4 22), (22, zt_aload 0 23), (23, zt_iload 1 24), (24, zt_iload 5 26), (26, zt_aload 0 27), (27, zt_iload 2 28), (28, zt_iload 3 29), (29, zt_const (zI 1) 30), (30, zt_bin (fun x y => x + y) 31), (31, zt_call kd sp_X3_slot 3 34), (34, zt_call kd sp_X3_shuts 4 37), (37, zt_icmp (fun x y => y ≤ x) (fun x y => ¬ y ≤ x) 44 40), (40, zt_const (zI 1) 41), (41, zt_goto 45), (44, zt_const (zI 0) 45), (45, zt_zret K)]
set_option maxRecDepth 20000 in
theorem tk_X3_wouldBind (d : Nat) (h_X3_slot : zMS 1 yX3_slot cX3_slot 3 (some .int) sp_X3_slot) (h_X3_opens : zMS 1 yX3_opens cX3_opens 3 (some .int) sp_X3_opens) (h_X3_shuts : zMS 2 yX3_shuts cX3_shuts 6 (some .int) sp_X3_shuts) : zTrue RX3 cX3_wouldBind 6 (some .boolean) (d + 3) (fun kd K => tb_X3_wouldBind kd K) := by
  intro p l e R s m args below meth c D cy A ad bl Qm K C0 hr hlocks hQ
  obtain ⟨hx, hb, hml, hown, hts, hK, hD, hA0, hN, hE, ⟨hR1, hR2⟩, hc1, hc2⟩ := id C0
  unfold tb_X3_wouldBind
  refine List.forall_mem_cons.mpr ⟨ok_aload_n hx hb rfl dd_X3_wouldBind_0, ?_⟩
  refine List.forall_mem_cons.mpr ⟨ok_iload_n hx hb rfl dd_X3_wouldBind_1, ?_⟩
  refine List.forall_mem_cons.mpr ⟨ok_iload_n hx hb rfl dd_X3_wouldBind_2, ?_⟩
  refine List.forall_mem_cons.mpr ⟨ok_callV (n := 2) zc_X3 rv_X3_slot C0 (h_X3_slot (d + 2) (by omega)) (by decide) wd_341 wd_338 wd_340 wd_6 wd_102 ⟨rfl, by decide +kernel, by decide +kernel, by decide +kernel⟩ dd_X3_wouldBind_3, ?_⟩
  refine List.forall_mem_cons.mpr ⟨ok_istore hx hb dd_X3_wouldBind_6, ?_⟩
  refine List.forall_mem_cons.mpr ⟨ok_aload_n hx hb rfl dd_X3_wouldBind_8, ?_⟩
  refine List.forall_mem_cons.mpr ⟨ok_iload_n hx hb rfl dd_X3_wouldBind_9, ?_⟩
  refine List.forall_mem_cons.mpr ⟨ok_iload hx hb dd_X3_wouldBind_10, ?_⟩
  refine List.forall_mem_cons.mpr ⟨ok_callV (n := 2) zc_X3 rv_X3_opens C0 (h_X3_opens (d + 2) (by omega)) (by decide) wd_562 wd_559 wd_561 wd_27 wd_102 ⟨rfl, by decide +kernel, by decide +kernel, by decide +kernel⟩ dd_X3_wouldBind_12, ?_⟩
  refine List.forall_mem_cons.mpr ⟨ok_iload hx hb dd_X3_wouldBind_15, ?_⟩
  refine List.forall_mem_cons.mpr ⟨ok_icmp_gt hx hb dd_X3_wouldBind_17 (by decide), ?_⟩
  refine List.forall_mem_cons.mpr ⟨ok_iload hx hb dd_X3_wouldBind_20, ?_⟩
  refine List.forall_mem_cons.mpr ⟨ok_aload_n hx hb rfl dd_X3_wouldBind_22, ?_⟩
  refine List.forall_mem_cons.mpr ⟨ok_iload_n hx hb rfl dd_X3_wouldBind_23, ?_⟩
  refine List.forall_mem_cons.mpr ⟨ok_iload hx hb dd_X3_wouldBind_24, ?_⟩
  refine List.forall_mem_cons.mpr ⟨ok_aload_n hx hb rfl dd_X3_wouldBind_26, ?_⟩
  refine List.forall_mem_cons.mpr ⟨ok_iload_n hx hb rfl dd_X3_wouldBind_27, ?_⟩
  refine List.forall_mem_cons.mpr ⟨ok_iload_n hx hb rfl dd_X3_wouldBind_28, ?_⟩
  refine List.forall_mem_cons.mpr ⟨ok_iconst hx hb dd_X3_wouldBind_29 (by decide), ?_⟩
  refine List.forall_mem_cons.mpr ⟨ok_iadd hx hb dd_X3_wouldBind_30, ?_⟩
  refine List.forall_mem_cons.mpr ⟨ok_callV (n := 2) zc_X3 rv_X3_slot C0 (h_X3_slot (d + 2) (by omega)) (by decide) wd_341 wd_338 wd_340 wd_6 wd_102 ⟨rfl, by decide +kernel, by decide +kernel, by decide +kernel⟩ dd_X3_wouldBind_31, ?_⟩
  refine List.forall_mem_cons.mpr ⟨ok_callV (n := 3) zc_X3 rv_X3_shuts C0 (h_X3_shuts (d + 2) (by omega)) (by decide) wd_567 wd_564 wd_566 wd_28 wd_102 ⟨rfl, by decide +kernel, by decide +kernel, by decide +kernel⟩ dd_X3_wouldBind_34, ?_⟩
  refine List.forall_mem_cons.mpr ⟨ok_icmp_ge hx hb dd_X3_wouldBind_37 (by decide), ?_⟩
  refine List.forall_mem_cons.mpr ⟨ok_iconst hx hb dd_X3_wouldBind_40 (by decide), ?_⟩
  refine List.forall_mem_cons.mpr ⟨ok_goto hx hb dd_X3_wouldBind_41 (by decide), ?_⟩
  refine List.forall_mem_cons.mpr ⟨ok_iconst hx hb dd_X3_wouldBind_44 (by decide), ?_⟩
  refine List.forall_mem_cons.mpr ⟨ok_zret hx hb hr hlocks hQ dd_X3_wouldBind_45, ?_⟩
  exact fun _ h => absurd h List.not_mem_nil
set_option maxRecDepth 100000 in
theorem vc_X3_wouldBind_0 {kd : Nat → Nat} {K : zK} {X : zX} (hX : ∀ (n pc : Nat) (ls : zLS) (st : List zV) (M : zM), zrun (tb_X3_wouldBind kd K) [] n X pc ls st M → X pc ls st M) {t : Nat} {k : Int32} {c : Int32} {i : Int32} {y : Int32} {M : zM} (hk0 : kd t = 3) (h : ∃ a1 : Sk, (RpS (M.1 t) a1) ∧ ∀ v1 : Int32, (v1.toInt = if (sk_at a1 c.toInt i.toInt).isSome then 4 * c.toInt + i.toInt else -1) → ∃ a2 : Sk, (RpS (M.1 t) a2) ∧ ∃ c2 : Nat, ∃ i2 : Nat, ∃ l2 : Ly, (c2 < 6) ∧ ((a2.1 c2)[i2]? = some l2) ∧ (v1.toInt = 4 * (c2 : Int) + i2) ∧ ∀ v2 : Int32, (v2.toInt = opn k.toInt l2) → ((y < v2) → K (some (zI ((0 : Int32)))) M) ∧ ((¬ y < v2) → ∃ a3 : Sk, (RpS (M.1 t) a3) ∧ ∀ v3 : Int32, (v3.toInt = if (sk_at a3 c.toInt (i + (1 : Int32)).toInt).isSome then 4 * c.toInt + (i + (1 : Int32)).toInt else -1) → ∃ a4 : Sk, (RpS (M.1 t) a4) ∧ ∃ c4 : Nat, ∃ i4 : Nat, ∃ l4 : Ly, (c4 < 6) ∧ ((a4.1 c4)[i4]? = some l4) ∧ (v1.toInt = 4 * (c4 : Int) + i4) ∧ (v3.toInt = if ((a4.1 c4)[i4 + 1]?).isSome then 4 * (c4 : Int) + i4 + 1 else -1) ∧ ∀ v4 : Int32, (v4.toInt = sht k.toInt l4 ((a4.1 c4)[i4 + 1]?)) → ((v4 ≤ y) → K (some (zI ((0 : Int32)))) M) ∧ ((¬ v4 ≤ y) → K (some (zI ((1 : Int32)))) M))) : X 0 [some (zR t 0), some (zI (k)), some (zI (c)), some (zI (i)), some (zI (y)), none] [] M := hX 27 0 _ [] M (show (kd t = 3) ∧ ∃ a1 : Sk, (RpS (M.1 t) a1) ∧ ∀ v1 : Int32, (v1.toInt = if (sk_at a1 c.toInt i.toInt).isSome then 4 * c.toInt + i.toInt else -1) → (kd t = 3) ∧ ∃ a2 : Sk, (RpS (M.1 t) a2) ∧ ∃ c2 : Nat, ∃ i2 : Nat, ∃ l2 : Ly, (c2 < 6) ∧ ((a2.1 c2)[i2]? = some l2) ∧ (v1.toInt = 4 * (c2 : Int) + i2) ∧ ∀ v2 : Int32, (v2.toInt = opn k.toInt l2) → ((y < v2) → ((0 : Int32) = 0 ∨ (0 : Int32) = 1) ∧ K (some (zI ((0 : Int32)))) M) ∧ ((¬ y < v2) → (kd t = 3) ∧ ∃ a3 : Sk, (RpS (M.1 t) a3) ∧ ∀ v3 : Int32, (v3.toInt = if (sk_at a3 c.toInt (i + (1 : Int32)).toInt).isSome then 4 * c.toInt + (i + (1 : Int32)).toInt else -1) → (kd t = 3) ∧ ∃ a4 : Sk, (RpS (M.1 t) a4) ∧ ∃ c4 : Nat, ∃ i4 : Nat, ∃ l4 : Ly, (c4 < 6) ∧ ((a4.1 c4)[i4]? = some l4) ∧ (v1.toInt = 4 * (c4 : Int) + i4) ∧ (v3.toInt = if ((a4.1 c4)[i4 + 1]?).isSome then 4 * (c4 : Int) + i4 + 1 else -1) ∧ ∀ v4 : Int32, (v4.toInt = sht k.toInt l4 ((a4.1 c4)[i4 + 1]?)) → ((v4 ≤ y) → ((0 : Int32) = 0 ∨ (0 : Int32) = 1) ∧ K (some (zI ((0 : Int32)))) M) ∧ ((¬ v4 ≤ y) → ((1 : Int32) = 0 ∨ (1 : Int32) = 1) ∧ K (some (zI ((1 : Int32)))) M)) from ⟨hk0, h.elim (fun a1 h => ⟨a1, ⟨h.1, have h := h.2; fun v1 => have h := h v1; fun q => have h := h q; ⟨hk0, h.elim (fun a2 h => ⟨a2, ⟨h.1, have h := h.2; h.elim (fun c2 h => ⟨c2, h.elim (fun i2 h => ⟨i2, h.elim (fun l2 h => ⟨l2, ⟨h.1, have h := h.2; ⟨h.1, have h := h.2; ⟨h.1, have h := h.2; fun v2 => have h := h v2; fun q => have h := h q; ⟨fun q => have h := h.1 q; ⟨(Or.inl rfl), h⟩, fun q => have h := h.2 q; ⟨hk0, h.elim (fun a3 h => ⟨a3, ⟨h.1, have h := h.2; fun v3 => have h := h v3; fun q => have h := h q; ⟨hk0, h.elim (fun a4 h => ⟨a4, ⟨h.1, have h := h.2; h.elim (fun c4 h => ⟨c4, h.elim (fun i4 h => ⟨i4, h.elim (fun l4 h => ⟨l4, ⟨h.1, have h := h.2; ⟨h.1, have h := h.2; ⟨h.1, have h := h.2; ⟨h.1, have h := h.2; fun v4 => have h := h v4; fun q => have h := h q; ⟨fun q => have h := h.1 q; ⟨(Or.inl rfl), h⟩, fun q => have h := h.2 q; ⟨(Or.inr rfl), h⟩⟩⟩⟩⟩⟩⟩)⟩)⟩)⟩⟩)⟩⟩⟩)⟩⟩⟩⟩⟩⟩)⟩)⟩)⟩⟩)⟩⟩⟩)⟩)
def sp_X3_bound : zSpec := fun kd as M K => match as with
  | [.inr (.inr (.inl (t, 0))), .inl c, .inl i, .inl y] => (kd t = 3) ∧ ∃ a : Sk, (RpS (M.1 t) a) ∧ (0 ≤ y.toInt ∧ y.toInt < 1000000) ∧ ∀ v : Int32, (v = zp (sk_bd a c.toInt i.toInt y.toInt = true)) → K (some (.inl v)) M
  | _ => False
theorem rv_X3_bound : zrv sp_X3_bound 3 3 := by
  intro kd as M K h
  unfold sp_X3_bound at h
  split at h
  · exact ⟨_, _, rfl, h.1⟩
  · exact h.elim
theorem dd_X3_bound_0 : decode cX3_bound 0 = .ok (.aload_n 0, 1) := by decide +kernel
theorem dd_X3_bound_1 : decode cX3_bound 1 = .ok (.iload_n 1, 1) := by decide +kernel
theorem dd_X3_bound_2 : decode cX3_bound 2 = .ok (.iload_n 2, 1) := by decide +kernel
theorem dd_X3_bound_3 : decode cX3_bound 3 = .ok (.invokevirtual 40, 3) := by decide +kernel
theorem dd_X3_bound_6 : decode cX3_bound 6 = .ok (.istore 4, 2) := by decide +kernel
theorem dd_X3_bound_8 : decode cX3_bound 8 = .ok (.iload 4, 2) := by decide +kernel
theorem dd_X3_bound_10 : decode cX3_bound 10 = .ok (.iconst (-1), 1) := by decide +kernel
theorem dd_X3_bound_11 : decode cX3_bound 11 = .ok (.if_icmp .eq 24, 3) := by decide +kernel
theorem dd_X3_bound_14 : decode cX3_bound 14 = .ok (.aload_n 0, 1) := by decide +kernel
theorem dd_X3_bound_15 : decode cX3_bound 15 = .ok (.aload_n 0, 1) := by decide +kernel
theorem dd_X3_bound_16 : decode cX3_bound 16 = .ok (.getfield 15, 3) := by decide +kernel
theorem dd_X3_bound_19 : decode cX3_bound 19 = .ok (.iload 4, 2) := by decide +kernel
theorem dd_X3_bound_21 : decode cX3_bound 21 = .ok (.iaload, 1) := by decide +kernel
theorem dd_X3_bound_22 : decode cX3_bound 22 = .ok (.iload_n 1, 1) := by decide +kernel
theorem dd_X3_bound_23 : decode cX3_bound 23 = .ok (.iload_n 2, 1) := by decide +kernel
theorem dd_X3_bound_24 : decode cX3_bound 24 = .ok (.iload_n 3, 1) := by decide +kernel
theorem dd_X3_bound_25 : decode cX3_bound 25 = .ok (.invokevirtual 84, 3) := by decide +kernel
theorem dd_X3_bound_28 : decode cX3_bound 28 = .ok (.ifCond .eq 7, 3) := by decide +kernel
theorem dd_X3_bound_31 : decode cX3_bound 31 = .ok (.iconst 1, 1) := by decide +kernel
theorem dd_X3_bound_32 : decode cX3_bound 32 = .ok (.goto 4, 3) := by decide +kernel
theorem dd_X3_bound_35 : decode cX3_bound 35 = .ok (.iconst 0, 1) := by decide +kernel
theorem dd_X3_bound_36 : decode cX3_bound 36 = .ok (.ireturn, 1) := by decide +kernel
def tb_X3_bound (kd : Nat → Nat) (K : zK) : zTab := [(0, zt_aload 0 1), (1, zt_iload 1 2), (2, zt_iload 2 3), (3, zt_call kd sp_X3_slot 3 6), (6, zt_istore 4 8), (8, zt_iload 4 10), (10, zt_const (zI (-1)) 11), (11, zt_icmp (fun x y => x = y) (fun x y => ¬ x = y) 35 14), (14, zt_aload 0 15), (15, zt_aload 0 16), (16, zt_getR kd 3 0 2 19), (19, zt_iload 4 21), (21, zt_ald kd 0 22), (22, zt_iload 1 23), (23, zt_iload 2 24), (24, zt_iload 3 25), (25, zt_call kd sp_X3_wouldBind 5 28), (28, zt_if (fun x => x = 0) (fun x => ¬ x = 0) 35 31), (31, zt_const (zI 1) 32), (32, zt_goto 36), (35, zt_const (zI 0) 36), (36, zt_zret K)]
set_option maxRecDepth 20000 in
theorem tk_X3_bound (d : Nat) (h_X3_slot : zMS 1 yX3_slot cX3_slot 3 (some .int) sp_X3_slot) (h_X3_wouldBind : zMS 3 yX3_wouldBind cX3_wouldBind 6 (some .boolean) sp_X3_wouldBind) : zTrue RX3 cX3_bound 5 (some .boolean) (d + 4) (fun kd K => tb_X3_bound kd K) := by
  intro p l e R s m args below meth c D cy A ad bl Qm K C0 hr hlocks hQ
  obtain ⟨hx, hb, hml, hown, hts, hK, hD, hA0, hN, hE, ⟨hR1, hR2⟩, hc1, hc2⟩ := id C0
  unfold tb_X3_bound
  refine List.forall_mem_cons.mpr ⟨ok_aload_n hx hb rfl dd_X3_bound_0, ?_⟩
  refine List.forall_mem_cons.mpr ⟨ok_iload_n hx hb rfl dd_X3_bound_1, ?_⟩
  refine List.forall_mem_cons.mpr ⟨ok_iload_n hx hb rfl dd_X3_bound_2, ?_⟩
  refine List.forall_mem_cons.mpr ⟨ok_callV (n := 2) zc_X3 rv_X3_slot C0 (h_X3_slot (d + 3) (by omega)) (by decide) wd_341 wd_338 wd_340 wd_6 wd_102 ⟨rfl, by decide +kernel, by decide +kernel, by decide +kernel⟩ dd_X3_bound_3, ?_⟩
  refine List.forall_mem_cons.mpr ⟨ok_istore hx hb dd_X3_bound_6, ?_⟩
  refine List.forall_mem_cons.mpr ⟨ok_iload hx hb dd_X3_bound_8, ?_⟩
  refine List.forall_mem_cons.mpr ⟨ok_iconst hx hb dd_X3_bound_10 (by decide), ?_⟩
  refine List.forall_mem_cons.mpr ⟨ok_icmp_eq hx hb dd_X3_bound_11 (by decide), ?_⟩
  refine List.forall_mem_cons.mpr ⟨ok_aload_n hx hb rfl dd_X3_bound_14, ?_⟩
  refine List.forall_mem_cons.mpr ⟨ok_aload_n hx hb rfl dd_X3_bound_15, ?_⟩
  refine List.forall_mem_cons.mpr ⟨ok_getR (j := 1) hx hb hts zi_X3 hown hK zc_X3 (by decide) rfl (fun t fl h => by cases h; rfl) (hts _ wd_138) dd_X3_bound_16, ?_⟩
  refine List.forall_mem_cons.mpr ⟨ok_iload hx hb dd_X3_bound_19, ?_⟩
  refine List.forall_mem_cons.mpr ⟨ok_ald (ty := 0) rfl hx hb hK (Or.inl ⟨rfl, rfl, dd_X3_bound_21⟩), ?_⟩
  refine List.forall_mem_cons.mpr ⟨ok_iload_n hx hb rfl dd_X3_bound_22, ?_⟩
  refine List.forall_mem_cons.mpr ⟨ok_iload_n hx hb rfl dd_X3_bound_23, ?_⟩
  refine List.forall_mem_cons.mpr ⟨ok_iload_n hx hb rfl dd_X3_bound_24, ?_⟩
  refine List.forall_mem_cons.mpr ⟨ok_callV (n := 4) zc_X3 rv_X3_wouldBind C0 (h_X3_wouldBind (d + 3) (by omega)) (by decide) wd_558 wd_555 wd_557 wd_26 wd_102 ⟨rfl, by decide +kernel, by decide +kernel, by decide +kernel⟩ dd_X3_bound_25, ?_⟩
  refine List.forall_mem_cons.mpr ⟨ok_if_eq hx hb dd_X3_bound_28 (by decide), ?_⟩
  refine List.forall_mem_cons.mpr ⟨ok_iconst hx hb dd_X3_bound_31 (by decide), ?_⟩
  refine List.forall_mem_cons.mpr ⟨ok_goto hx hb dd_X3_bound_32 (by decide), ?_⟩
  refine List.forall_mem_cons.mpr ⟨ok_iconst hx hb dd_X3_bound_35 (by decide), ?_⟩
  refine List.forall_mem_cons.mpr ⟨ok_zret hx hb hr hlocks hQ dd_X3_bound_36, ?_⟩
  exact fun _ h => absurd h List.not_mem_nil
set_option maxRecDepth 100000 in
theorem vc_X3_bound_0 {kd : Nat → Nat} {K : zK} {X : zX} (hX : ∀ (n pc : Nat) (ls : zLS) (st : List zV) (M : zM), zrun (tb_X3_bound kd K) [] n X pc ls st M → X pc ls st M) {t : Nat} {c : Int32} {i : Int32} {y : Int32} {M : zM} (hk0 : kd t = 3) (h : ∃ a1 : Sk, (RpS (M.1 t) a1) ∧ ∀ v1 : Int32, (v1.toInt = if (sk_at a1 c.toInt i.toInt).isSome then 4 * c.toInt + i.toInt else -1) → ((v1 = (-1 : Int32)) → K (some (zI ((0 : Int32)))) M) ∧ ((¬ v1 = (-1 : Int32)) → (zin (kd t) 2 0 v1) ∧ ∃ a2 : Sk, (RpS (M.1 t) a2) ∧ ∃ l2 : Ly, (sk_at a2 c.toInt i.toInt = some l2) ∧ (0 ≤ y.toInt ∧ y.toInt < 1000000) ∧ ∀ v2 : Int32, (v2 = zp (bnd (M.1 t 2 (v1).toNatClampNeg).toInt l2 (sk_at a2 c.toInt (i.toInt + 1)) y.toInt = true)) → ((v2 = 0) → K (some (zI ((0 : Int32)))) M) ∧ ((¬ v2 = 0) → K (some (zI ((1 : Int32)))) M))) : X 0 [some (zR t 0), some (zI (c)), some (zI (i)), some (zI (y)), none] [] M := hX 22 0 _ [] M (show (kd t = 3) ∧ ∃ a1 : Sk, (RpS (M.1 t) a1) ∧ ∀ v1 : Int32, (v1.toInt = if (sk_at a1 c.toInt i.toInt).isSome then 4 * c.toInt + i.toInt else -1) → ((v1 = (-1 : Int32)) → ((0 : Int32) = 0 ∨ (0 : Int32) = 1) ∧ K (some (zI ((0 : Int32)))) M) ∧ ((¬ v1 = (-1 : Int32)) → (kd t = 3) ∧ (zin (kd t) 2 0 v1) ∧ (kd t = 3) ∧ ∃ a2 : Sk, (RpS (M.1 t) a2) ∧ ∃ l2 : Ly, (sk_at a2 c.toInt i.toInt = some l2) ∧ (0 ≤ y.toInt ∧ y.toInt < 1000000) ∧ ∀ v2 : Int32, (v2 = zp (bnd (M.1 t 2 (v1).toNatClampNeg).toInt l2 (sk_at a2 c.toInt (i.toInt + 1)) y.toInt = true)) → ((v2 = 0) → ((0 : Int32) = 0 ∨ (0 : Int32) = 1) ∧ K (some (zI ((0 : Int32)))) M) ∧ ((¬ v2 = 0) → ((1 : Int32) = 0 ∨ (1 : Int32) = 1) ∧ K (some (zI ((1 : Int32)))) M)) from ⟨hk0, h.elim (fun a1 h => ⟨a1, ⟨h.1, have h := h.2; fun v1 => have h := h v1; fun q => have h := h q; ⟨fun q => have h := h.1 q; ⟨(Or.inl rfl), h⟩, fun q => have h := h.2 q; ⟨hk0, ⟨h.1, have h := h.2; ⟨hk0, h.elim (fun a2 h => ⟨a2, ⟨h.1, have h := h.2; h.elim (fun l2 h => ⟨l2, ⟨h.1, have h := h.2; ⟨h.1, have h := h.2; fun v2 => have h := h v2; fun q => have h := h q; ⟨fun q => have h := h.1 q; ⟨(Or.inl rfl), h⟩, fun q => have h := h.2 q; ⟨(Or.inr rfl), h⟩⟩⟩⟩⟩)⟩⟩)⟩⟩⟩⟩⟩⟩)⟩)
