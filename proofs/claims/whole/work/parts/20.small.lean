
/-! steps that may be undone, oldest first; what the lamp showed -/
def RpT (S : zB) (L : List Int) : Prop := L.length ≤ 6 ∧ (S 0 1).toInt = (L.length : Int) ∧ ∀ (i : Nat) (z : Int), L[i]? = some z → (S 1 i).toInt = z
def stAdd (L : List Int) (s : Int) : List Int := (if L.length < 6 then L else L.drop 1) ++ [s]
abbrev Se : Type := Int × Int × Int × Int
def okSe (x : Se) : Prop := (0 ≤ x.2.2.1 ∧ x.2.2.1 ≤ 999) ∧ (x.2.2.2 = 0 ∨ x.2.2.2 = 1)
def RpL (S : zB) (q : List Se) : Prop := q.length ≤ 6 ∧ (S 0 4).toInt = (q.length : Int) ∧ ∀ (i : Nat) (x : Se), q[i]? = some x → okSe x ∧ (S 1 i).toInt = x.1 ∧ (S 2 i).toInt = x.2.1 ∧ (S 3 i).toInt = x.2.2.1 ∧ (S 4 i).toInt = x.2.2.2
def seOk (k : Int) (l : Ly) (o : Option Ly) (c i : Int) (x : Se) : Bool := !(decide (x.1 = c) && decide (x.2.1 = i)) || (bnd k l o x.2.2.1 == decide (x.2.2.2 = 1))
def seFit (q : List Se) (l : Ly) (o : Option Ly) (c i : Int) : Int := zsm (fun k => if q.all (seOk k l o c i) then 2 ^ k else 0) 6
def mxS (h : Int64) (x : Se) : Int64 := mx (mx (mx (mx h x.1) x.2.1) x.2.2.1) x.2.2.2
def sp_X4_take : zSpec := fun kd as M K => match as with
  | [.inr (.inr (.inl (t, 0))), .inr (.inr (.inl (u, 0)))] => (kd t = 4) ∧ (kd u = 4) ∧ (¬ t = u) ∧ ∃ L : List Int, (RpT (M.1 u) L) ∧ ∀ S' : zB, (RpT S' L) → ∀ M' : zM, (M' = zbs M t S') → K none M'
  | _ => False
theorem rv_X4_take : zrv sp_X4_take 4 1 := by
  intro kd as M K h
  unfold sp_X4_take at h
  split at h
  · exact ⟨_, _, rfl, h.1⟩
  · exact h.elim
theorem dd_X4_take_0 : decode cX4_take 0 = .ok (.aload_n 0, 1) := by decide +kernel
theorem dd_X4_take_1 : decode cX4_take 1 = .ok (.aload_n 1, 1) := by decide +kernel
theorem dd_X4_take_2 : decode cX4_take 2 = .ok (.getfield 15, 3) := by decide +kernel
theorem dd_X4_take_5 : decode cX4_take 5 = .ok (.putfield 15, 3) := by decide +kernel
theorem dd_X4_take_8 : decode cX4_take 8 = .ok (.aload_n 1, 1) := by decide +kernel
theorem dd_X4_take_9 : decode cX4_take 9 = .ok (.getfield 9, 3) := by decide +kernel
theorem dd_X4_take_12 : decode cX4_take 12 = .ok (.iconst 0, 1) := by decide +kernel
theorem dd_X4_take_13 : decode cX4_take 13 = .ok (.aload_n 0, 1) := by decide +kernel
theorem dd_X4_take_14 : decode cX4_take 14 = .ok (.getfield 9, 3) := by decide +kernel
theorem dd_X4_take_17 : decode cX4_take 17 = .ok (.iconst 0, 1) := by decide +kernel
theorem dd_X4_take_18 : decode cX4_take 18 = .ok (.bipush 6, 2) := by decide +kernel
theorem dd_X4_take_20 : decode cX4_take 20 = .ok (.invokestatic 19, 3) := by decide +kernel
theorem dd_X4_take_23 : decode cX4_take 23 = .ok (.return_, 1) := by decide +kernel
def tb_X4_take (kd : Nat → Nat) (K : zK) : zTab := [(0, zt_aload 0 1), (1, zt_aload 1 2), (2, zt_getI kd 4 1 5), (5, zt_putI kd 4 1 8), (8, zt_aload 1 9), (9, zt_getR kd 4 0 1 12), (12, zt_const (zI 0) 13), (13, zt_aload 0 14), (14, zt_getR kd 4 0 1 17), (17, zt_const (zI 0) 18), (18, zt_const (zI 6) 20), (20, zt_copy kd 23), (23, zt_vret K)]
set_option maxRecDepth 20000 in
theorem tk_X4_take (d : Nat)  : zTrue RX4 cX4_take 2 none (d + 1) (fun kd K => tb_X4_take kd K) := by
  intro p l e R s m args below meth c D cy A ad bl Qm K C0 hr hlocks hQ
  obtain ⟨hx, hb, hml, hown, hts, hK, hD, hA0, hN, hE, ⟨hR1, hR2⟩, hc1, hc2⟩ := id C0
  unfold tb_X4_take
  refine List.forall_mem_cons.mpr ⟨ok_aload_n hx hb rfl dd_X4_take_0, ?_⟩
  refine List.forall_mem_cons.mpr ⟨ok_aload_n hx hb rfl dd_X4_take_1, ?_⟩
  refine List.forall_mem_cons.mpr ⟨ok_getI (j := 1) hx hb hts zi_X4 hown hK zc_X4 (by decide) rfl (fun t fl h => by cases h; rfl) (hts _ wd_168) dd_X4_take_2, ?_⟩
  refine List.forall_mem_cons.mpr ⟨ok_putI (j := 1) hx hb hts zi_X4 tyX4 tyX4_ok nmX4 hown hK hD zc_X4 (by decide) rfl rfl (by decide +kernel) (fun t fl h => by cases h; rfl) (hts _ wd_168) dd_X4_take_5, ?_⟩
  refine List.forall_mem_cons.mpr ⟨ok_aload_n hx hb rfl dd_X4_take_8, ?_⟩
  refine List.forall_mem_cons.mpr ⟨ok_getR (j := 0) hx hb hts zi_X4 hown hK zc_X4 (by decide) rfl (fun t fl h => by cases h; rfl) (hts _ wd_167) dd_X4_take_9, ?_⟩
  refine List.forall_mem_cons.mpr ⟨ok_iconst hx hb dd_X4_take_12 (by decide), ?_⟩
  refine List.forall_mem_cons.mpr ⟨ok_aload_n hx hb rfl dd_X4_take_13, ?_⟩
  refine List.forall_mem_cons.mpr ⟨ok_getR (j := 0) hx hb hts zi_X4 hown hK zc_X4 (by decide) rfl (fun t fl h => by cases h; rfl) (hts _ wd_167) dd_X4_take_14, ?_⟩
  refine List.forall_mem_cons.mpr ⟨ok_iconst hx hb dd_X4_take_17 (by decide), ?_⟩
  refine List.forall_mem_cons.mpr ⟨ok_bipush hx hb dd_X4_take_18 (by decide), ?_⟩
  refine List.forall_mem_cons.mpr ⟨ok_copy hx hb hml hown (hts _ wd_350) (hts _ wd_352) (hts _ wd_351) (hts _ wd_108) hK hD ⟨by omega, by omega⟩ dd_X4_take_20, ?_⟩
  refine List.forall_mem_cons.mpr ⟨ok_vret hx hb hr hlocks hQ dd_X4_take_23, ?_⟩
  exact fun _ h => absurd h List.not_mem_nil
set_option maxRecDepth 100000 in
theorem vc_X4_take_0 {kd : Nat → Nat} {K : zK} {X : zX} (hX : ∀ (n pc : Nat) (ls : zLS) (st : List zV) (M : zM), zrun (tb_X4_take kd K) [] n X pc ls st M → X pc ls st M) {t : Nat} {u : Nat} {M : zM} (hk0 : kd t = 4) (hk1 : kd u = 4) (h : ∀ M1 : zM, (M1 = zmw M t 0 (upd (M.1 t 0) 1 (M.1 u 0 1))) → (zcpok (kd u) 1 (kd t) 1 (0 : Int32) (0 : Int32) (6 : Int32)) ∧ ∀ M2 : zM, (M2 = zcpy M1 u 1 t 1 ((0 : Int32)).toNatClampNeg ((0 : Int32)).toNatClampNeg ((6 : Int32)).toNatClampNeg) → K none M2) : X 0 [some (zR t 0), some (zR u 0)] [] M := hX 14 0 _ [] M (show (kd u = 4) ∧ (kd t = 4) ∧ ∀ M1 : zM, (M1 = zmw M t 0 (upd (M.1 t 0) 1 (M.1 u 0 1))) → (kd u = 4) ∧ (kd t = 4) ∧ (zcpok (kd u) 1 (kd t) 1 (0 : Int32) (0 : Int32) (6 : Int32)) ∧ ∀ M2 : zM, (M2 = zcpy M1 u 1 t 1 ((0 : Int32)).toNatClampNeg ((0 : Int32)).toNatClampNeg ((6 : Int32)).toNatClampNeg) → K none M2 from ⟨hk1, ⟨hk0, fun M1 => have h := h M1; fun q => have h := h q; ⟨hk1, ⟨hk0, ⟨h.1, have h := h.2; fun M2 => have h := h M2; fun q => have h := h q; h⟩⟩⟩⟩⟩)
def sp_X4_add : zSpec := fun kd as M K => match as with
  | [.inr (.inr (.inl (t, 0))), .inl s] => (kd t = 4) ∧ ∃ L : List Int, (RpT (M.1 t) L) ∧ ∀ S' : zB, (RpT S' (stAdd L s.toInt)) → ∀ M' : zM, (M' = zbs M t S') → K none M'
  | _ => False
theorem rv_X4_add : zrv sp_X4_add 4 1 := by
  intro kd as M K h
  unfold sp_X4_add at h
  split at h
  · exact ⟨_, _, rfl, h.1⟩
  · exact h.elim
theorem dd_X4_add_0 : decode cX4_add 0 = .ok (.aload_n 0, 1) := by decide +kernel
theorem dd_X4_add_1 : decode cX4_add 1 = .ok (.getfield 15, 3) := by decide +kernel
theorem dd_X4_add_4 : decode cX4_add 4 = .ok (.bipush 6, 2) := by decide +kernel
theorem dd_X4_add_6 : decode cX4_add 6 = .ok (.if_icmp .lt 22, 3) := by decide +kernel
theorem dd_X4_add_9 : decode cX4_add 9 = .ok (.aload_n 0, 1) := by decide +kernel
theorem dd_X4_add_10 : decode cX4_add 10 = .ok (.getfield 9, 3) := by decide +kernel
theorem dd_X4_add_13 : decode cX4_add 13 = .ok (.iconst 1, 1) := by decide +kernel
theorem dd_X4_add_14 : decode cX4_add 14 = .ok (.aload_n 0, 1) := by decide +kernel
theorem dd_X4_add_15 : decode cX4_add 15 = .ok (.getfield 9, 3) := by decide +kernel
theorem dd_X4_add_18 : decode cX4_add 18 = .ok (.iconst 0, 1) := by decide +kernel
theorem dd_X4_add_19 : decode cX4_add 19 = .ok (.iconst 5, 1) := by decide +kernel
theorem dd_X4_add_20 : decode cX4_add 20 = .ok (.invokestatic 19, 3) := by decide +kernel
theorem dd_X4_add_23 : decode cX4_add 23 = .ok (.aload_n 0, 1) := by decide +kernel
theorem dd_X4_add_24 : decode cX4_add 24 = .ok (.iconst 5, 1) := by decide +kernel
theorem dd_X4_add_25 : decode cX4_add 25 = .ok (.putfield 15, 3) := by decide +kernel
theorem dd_X4_add_28 : decode cX4_add 28 = .ok (.aload_n 0, 1) := by decide +kernel
theorem dd_X4_add_29 : decode cX4_add 29 = .ok (.getfield 15, 3) := by decide +kernel
theorem dd_X4_add_32 : decode cX4_add 32 = .ok (.ifCond .lt 23, 3) := by decide +kernel
theorem dd_X4_add_35 : decode cX4_add 35 = .ok (.aload_n 0, 1) := by decide +kernel
theorem dd_X4_add_36 : decode cX4_add 36 = .ok (.getfield 9, 3) := by decide +kernel
theorem dd_X4_add_39 : decode cX4_add 39 = .ok (.aload_n 0, 1) := by decide +kernel
theorem dd_X4_add_40 : decode cX4_add 40 = .ok (.getfield 15, 3) := by decide +kernel
theorem dd_X4_add_43 : decode cX4_add 43 = .ok (.iload_n 1, 1) := by decide +kernel
theorem dd_X4_add_44 : decode cX4_add 44 = .ok (.iastore, 1) := by decide +kernel
theorem dd_X4_add_45 : decode cX4_add 45 = .ok (.aload_n 0, 1) := by decide +kernel
theorem dd_X4_add_46 : decode cX4_add 46 = .ok (.dup, 1) := by decide +kernel
theorem dd_X4_add_47 : decode cX4_add 47 = .ok (.getfield 15, 3) := by decide +kernel
theorem dd_X4_add_50 : decode cX4_add 50 = .ok (.iconst 1, 1) := by decide +kernel
theorem dd_X4_add_51 : decode cX4_add 51 = .ok (.iadd, 1) := by decide +kernel
theorem dd_X4_add_52 : decode cX4_add 52 = .ok (.putfield 15, 3) := by decide +kernel
theorem dd_X4_add_55 : decode cX4_add 55 = .ok (.return_, 1) := by decide +kernel
def tb_X4_add (kd : Nat → Nat) (K : zK) : zTab := [(0, zt_aload 0 1), (1, zt_getI kd 4 1 4), (4, zt_const (zI 6) 6), (6, zt_icmp (fun x y => x < y) (fun x y => ¬ x < y) 28 9), (9, zt_aload 0 10), (10, zt_getR kd 4 0 1 13), (13, zt_const (zI 1) 14), (14, zt_aload 0 15), (15, zt_getR kd 4 0 1 18), (18, zt_const (zI 0) 19), (19, zt_const (zI 5) 20), (20, zt_copy kd 23), (23, zt_aload 0 24), (24, zt_const (zI 5) 25), (25, zt_putI kd 4 1 28), (28, zt_aload 0 29), (29, zt_getI kd 4 1 32), (32, zt_if (fun x => x < 0) (fun x => ¬ x < 0) 55 35), (35, zt_aload 0 36), (36, zt_getR kd 4 0 1 39), (39, zt_aload 0 40), (40, zt_getI kd 4 1 43), (43, zt_iload 1 44), (44, zt_ast kd 0 45), (45, zt_aload 0 46), (46, zt_dup 47), (47, zt_getI kd 4 1 50), (50, zt_const (zI 1) 51), (51, zt_bin (fun x y => x + y) 52), (52, zt_putI kd 4 1 55), (55, zt_vret K)]
set_option maxRecDepth 20000 in
theorem tk_X4_add (d : Nat)  : zTrue RX4 cX4_add 2 none (d + 1) (fun kd K => tb_X4_add kd K) := by
  intro p l e R s m args below meth c D cy A ad bl Qm K C0 hr hlocks hQ
  obtain ⟨hx, hb, hml, hown, hts, hK, hD, hA0, hN, hE, ⟨hR1, hR2⟩, hc1, hc2⟩ := id C0
  unfold tb_X4_add
  refine List.forall_mem_cons.mpr ⟨ok_aload_n hx hb rfl dd_X4_add_0, ?_⟩
  refine List.forall_mem_cons.mpr ⟨ok_getI (j := 1) hx hb hts zi_X4 hown hK zc_X4 (by decide) rfl (fun t fl h => by cases h; rfl) (hts _ wd_168) dd_X4_add_1, ?_⟩
  refine List.forall_mem_cons.mpr ⟨ok_bipush hx hb dd_X4_add_4 (by decide), ?_⟩
  refine List.forall_mem_cons.mpr ⟨ok_icmp_lt hx hb dd_X4_add_6 (by decide), ?_⟩
  refine List.forall_mem_cons.mpr ⟨ok_aload_n hx hb rfl dd_X4_add_9, ?_⟩
  refine List.forall_mem_cons.mpr ⟨ok_getR (j := 0) hx hb hts zi_X4 hown hK zc_X4 (by decide) rfl (fun t fl h => by cases h; rfl) (hts _ wd_167) dd_X4_add_10, ?_⟩
  refine List.forall_mem_cons.mpr ⟨ok_iconst hx hb dd_X4_add_13 (by decide), ?_⟩
  refine List.forall_mem_cons.mpr ⟨ok_aload_n hx hb rfl dd_X4_add_14, ?_⟩
  refine List.forall_mem_cons.mpr ⟨ok_getR (j := 0) hx hb hts zi_X4 hown hK zc_X4 (by decide) rfl (fun t fl h => by cases h; rfl) (hts _ wd_167) dd_X4_add_15, ?_⟩
  refine List.forall_mem_cons.mpr ⟨ok_iconst hx hb dd_X4_add_18 (by decide), ?_⟩
  refine List.forall_mem_cons.mpr ⟨ok_iconst hx hb dd_X4_add_19 (by decide), ?_⟩
  refine List.forall_mem_cons.mpr ⟨ok_copy hx hb hml hown (hts _ wd_350) (hts _ wd_352) (hts _ wd_351) (hts _ wd_108) hK hD ⟨by omega, by omega⟩ dd_X4_add_20, ?_⟩
  refine List.forall_mem_cons.mpr ⟨ok_aload_n hx hb rfl dd_X4_add_23, ?_⟩
  refine List.forall_mem_cons.mpr ⟨ok_iconst hx hb dd_X4_add_24 (by decide), ?_⟩
  refine List.forall_mem_cons.mpr ⟨ok_putI (j := 1) hx hb hts zi_X4 tyX4 tyX4_ok nmX4 hown hK hD zc_X4 (by decide) rfl rfl (by decide +kernel) (fun t fl h => by cases h; rfl) (hts _ wd_168) dd_X4_add_25, ?_⟩
  refine List.forall_mem_cons.mpr ⟨ok_aload_n hx hb rfl dd_X4_add_28, ?_⟩
  refine List.forall_mem_cons.mpr ⟨ok_getI (j := 1) hx hb hts zi_X4 hown hK zc_X4 (by decide) rfl (fun t fl h => by cases h; rfl) (hts _ wd_168) dd_X4_add_29, ?_⟩
  refine List.forall_mem_cons.mpr ⟨ok_if_lt hx hb dd_X4_add_32 (by decide), ?_⟩
  refine List.forall_mem_cons.mpr ⟨ok_aload_n hx hb rfl dd_X4_add_35, ?_⟩
  refine List.forall_mem_cons.mpr ⟨ok_getR (j := 0) hx hb hts zi_X4 hown hK zc_X4 (by decide) rfl (fun t fl h => by cases h; rfl) (hts _ wd_167) dd_X4_add_36, ?_⟩
  refine List.forall_mem_cons.mpr ⟨ok_aload_n hx hb rfl dd_X4_add_39, ?_⟩
  refine List.forall_mem_cons.mpr ⟨ok_getI (j := 1) hx hb hts zi_X4 hown hK zc_X4 (by decide) rfl (fun t fl h => by cases h; rfl) (hts _ wd_168) dd_X4_add_40, ?_⟩
  refine List.forall_mem_cons.mpr ⟨ok_iload_n hx hb rfl dd_X4_add_43, ?_⟩
  refine List.forall_mem_cons.mpr ⟨ok_ast (ty := 0) rfl hx hb hK hD (Or.inl ⟨rfl, rfl, dd_X4_add_44⟩), ?_⟩
  refine List.forall_mem_cons.mpr ⟨ok_aload_n hx hb rfl dd_X4_add_45, ?_⟩
  refine List.forall_mem_cons.mpr ⟨ok_dup hx hb dd_X4_add_46, ?_⟩
  refine List.forall_mem_cons.mpr ⟨ok_getI (j := 1) hx hb hts zi_X4 hown hK zc_X4 (by decide) rfl (fun t fl h => by cases h; rfl) (hts _ wd_168) dd_X4_add_47, ?_⟩
  refine List.forall_mem_cons.mpr ⟨ok_iconst hx hb dd_X4_add_50 (by decide), ?_⟩
  refine List.forall_mem_cons.mpr ⟨ok_iadd hx hb dd_X4_add_51, ?_⟩
  refine List.forall_mem_cons.mpr ⟨ok_putI (j := 1) hx hb hts zi_X4 tyX4 tyX4_ok nmX4 hown hK hD zc_X4 (by decide) rfl rfl (by decide +kernel) (fun t fl h => by cases h; rfl) (hts _ wd_168) dd_X4_add_52, ?_⟩
  refine List.forall_mem_cons.mpr ⟨ok_vret hx hb hr hlocks hQ dd_X4_add_55, ?_⟩
  exact fun _ h => absurd h List.not_mem_nil
set_option maxRecDepth 100000 in
theorem vc_X4_add_0 {kd : Nat → Nat} {K : zK} {X : zX} (hX : ∀ (n pc : Nat) (ls : zLS) (st : List zV) (M : zM), zrun (tb_X4_add kd K) [] n X pc ls st M → X pc ls st M) {t : Nat} {s : Int32} {M : zM} (hk0 : kd t = 4) (h : (((M.1 t 0 1) < (6 : Int32)) → (((M.1 t 0 1) < 0) → K none M) ∧ ((¬ (M.1 t 0 1) < 0) → (zin (kd t) 1 0 (M.1 t 0 1)) ∧ ∀ M1 : zM, (M1 = zmw M t 1 (upd (M.1 t 1) (M.1 t 0 1).toNatClampNeg s)) → ∀ M2 : zM, (M2 = zmw M1 t 0 (upd (M1.1 t 0) 1 ((M1.1 t 0 1) + (1 : Int32)))) → K none M2)) ∧ ((¬ (M.1 t 0 1) < (6 : Int32)) → (zcpok (kd t) 1 (kd t) 1 (1 : Int32) (0 : Int32) (5 : Int32)) ∧ ∀ M3 : zM, (M3 = zcpy M t 1 t 1 ((1 : Int32)).toNatClampNeg ((0 : Int32)).toNatClampNeg ((5 : Int32)).toNatClampNeg) → ∀ M4 : zM, (M4 = zmw M3 t 0 (upd (M3.1 t 0) 1 (5 : Int32))) → (((M4.1 t 0 1) < 0) → K none M4) ∧ ((¬ (M4.1 t 0 1) < 0) → (zin (kd t) 1 0 (M4.1 t 0 1)) ∧ ∀ M5 : zM, (M5 = zmw M4 t 1 (upd (M4.1 t 1) (M4.1 t 0 1).toNatClampNeg s)) → ∀ M6 : zM, (M6 = zmw M5 t 0 (upd (M5.1 t 0) 1 ((M5.1 t 0 1) + (1 : Int32)))) → K none M6))) : X 0 [some (zR t 0), some (zI (s))] [] M := hX 32 0 _ [] M (show (kd t = 4) ∧ (((M.1 t 0 1) < (6 : Int32)) → (kd t = 4) ∧ (((M.1 t 0 1) < 0) → K none M) ∧ ((¬ (M.1 t 0 1) < 0) → (kd t = 4) ∧ (kd t = 4) ∧ (zin (kd t) 1 0 (M.1 t 0 1)) ∧ ∀ M1 : zM, (M1 = zmw M t 1 (upd (M.1 t 1) (M.1 t 0 1).toNatClampNeg s)) → (kd t = 4) ∧ (kd t = 4) ∧ ∀ M2 : zM, (M2 = zmw M1 t 0 (upd (M1.1 t 0) 1 ((M1.1 t 0 1) + (1 : Int32)))) → K none M2)) ∧ ((¬ (M.1 t 0 1) < (6 : Int32)) → (kd t = 4) ∧ (kd t = 4) ∧ (zcpok (kd t) 1 (kd t) 1 (1 : Int32) (0 : Int32) (5 : Int32)) ∧ ∀ M3 : zM, (M3 = zcpy M t 1 t 1 ((1 : Int32)).toNatClampNeg ((0 : Int32)).toNatClampNeg ((5 : Int32)).toNatClampNeg) → (kd t = 4) ∧ ∀ M4 : zM, (M4 = zmw M3 t 0 (upd (M3.1 t 0) 1 (5 : Int32))) → (kd t = 4) ∧ (((M4.1 t 0 1) < 0) → K none M4) ∧ ((¬ (M4.1 t 0 1) < 0) → (kd t = 4) ∧ (kd t = 4) ∧ (zin (kd t) 1 0 (M4.1 t 0 1)) ∧ ∀ M5 : zM, (M5 = zmw M4 t 1 (upd (M4.1 t 1) (M4.1 t 0 1).toNatClampNeg s)) → (kd t = 4) ∧ (kd t = 4) ∧ ∀ M6 : zM, (M6 = zmw M5 t 0 (upd (M5.1 t 0) 1 ((M5.1 t 0 1) + (1 : Int32)))) → K none M6)) from ⟨hk0, ⟨fun q => have h := h.1 q; ⟨hk0, ⟨fun q => have h := h.1 q; h, fun q => have h := h.2 q; ⟨hk0, ⟨hk0, ⟨h.1, have h := h.2; fun M1 => have h := h M1; fun q => have h := h q; ⟨hk0, ⟨hk0, fun M2 => have h := h M2; fun q => have h := h q; h⟩⟩⟩⟩⟩⟩⟩, fun q => have h := h.2 q; ⟨hk0, ⟨hk0, ⟨h.1, have h := h.2; fun M3 => have h := h M3; fun q => have h := h q; ⟨hk0, fun M4 => have h := h M4; fun q => have h := h q; ⟨hk0, ⟨fun q => have h := h.1 q; h, fun q => have h := h.2 q; ⟨hk0, ⟨hk0, ⟨h.1, have h := h.2; fun M5 => have h := h M5; fun q => have h := h q; ⟨hk0, ⟨hk0, fun M6 => have h := h M6; fun q => have h := h q; h⟩⟩⟩⟩⟩⟩⟩⟩⟩⟩⟩⟩⟩)
def sp_X4_takeLast : zSpec := fun kd as M K => match as with
  | [.inr (.inr (.inl (t, 0)))] => (kd t = 4) ∧ ∃ L : List Int, (RpT (M.1 t) L) ∧ ∀ v : Int32, (v.toInt = (L.getLast?).getD (-1)) → ∀ S' : zB, (RpT S' L.dropLast) → ∀ M' : zM, (M' = zbs M t S') → K (some (.inl v)) M'
  | _ => False
theorem rv_X4_takeLast : zrv sp_X4_takeLast 4 0 := by
  intro kd as M K h
  unfold sp_X4_takeLast at h
  split at h
  · exact ⟨_, _, rfl, h.1⟩
  · exact h.elim
theorem dd_X4_takeLast_0 : decode cX4_takeLast 0 = .ok (.aload_n 0, 1) := by decide +kernel
theorem dd_X4_takeLast_1 : decode cX4_takeLast 1 = .ok (.getfield 15, 3) := by decide +kernel
theorem dd_X4_takeLast_4 : decode cX4_takeLast 4 = .ok (.ifCond .le 12, 3) := by decide +kernel
theorem dd_X4_takeLast_7 : decode cX4_takeLast 7 = .ok (.aload_n 0, 1) := by decide +kernel
theorem dd_X4_takeLast_8 : decode cX4_takeLast 8 = .ok (.getfield 15, 3) := by decide +kernel
theorem dd_X4_takeLast_11 : decode cX4_takeLast 11 = .ok (.bipush 6, 2) := by decide +kernel
theorem dd_X4_takeLast_13 : decode cX4_takeLast 13 = .ok (.if_icmp .le 5, 3) := by decide +kernel
theorem dd_X4_takeLast_16 : decode cX4_takeLast 16 = .ok (.iconst (-1), 1) := by decide +kernel
theorem dd_X4_takeLast_17 : decode cX4_takeLast 17 = .ok (.ireturn, 1) := by decide +kernel
theorem dd_X4_takeLast_18 : decode cX4_takeLast 18 = .ok (.aload_n 0, 1) := by decide +kernel
theorem dd_X4_takeLast_19 : decode cX4_takeLast 19 = .ok (.dup, 1) := by decide +kernel
theorem dd_X4_takeLast_20 : decode cX4_takeLast 20 = .ok (.getfield 15, 3) := by decide +kernel
theorem dd_X4_takeLast_23 : decode cX4_takeLast 23 = .ok (.iconst 1, 1) := by decide +kernel
theorem dd_X4_takeLast_24 : decode cX4_takeLast 24 = .ok (.isub, 1) := by decide +kernel
theorem dd_X4_takeLast_25 : decode cX4_takeLast 25 = .ok (.putfield 15, 3) := by decide +kernel
theorem dd_X4_takeLast_28 : decode cX4_takeLast 28 = .ok (.aload_n 0, 1) := by decide +kernel
theorem dd_X4_takeLast_29 : decode cX4_takeLast 29 = .ok (.getfield 9, 3) := by decide +kernel
theorem dd_X4_takeLast_32 : decode cX4_takeLast 32 = .ok (.aload_n 0, 1) := by decide +kernel
theorem dd_X4_takeLast_33 : decode cX4_takeLast 33 = .ok (.getfield 15, 3) := by decide +kernel
theorem dd_X4_takeLast_36 : decode cX4_takeLast 36 = .ok (.iaload, 1) := by decide +kernel
theorem dd_X4_takeLast_37 : decode cX4_takeLast 37 = .ok (.ireturn, 1) := by decide +kernel
def tb_X4_takeLast (kd : Nat → Nat) (K : zK) : zTab := [(0, zt_aload 0 1), (1, zt_getI kd 4 1 4), (4, zt_if (fun x => x ≤ 0) (fun x => ¬ x ≤ 0) 16 7), (7, zt_aload 0 8), (8, zt_getI kd 4 1 11), (11, zt_const (zI 6) 13), (13, zt_icmp (fun x y => x ≤ y) (fun x y => ¬ x ≤ y) 18 16), (16, zt_const (zI (-1)) 17), (17, zt_iret K), (18, zt_aload 0 19), (19, zt_dup 20), (20, zt_getI kd 4 1 23), (23, zt_const (zI 1) 24), (24, zt_bin (fun x y => x - y) 25), (25, zt_putI kd 4 1 28), (28, zt_aload 0 29), (29, zt_getR kd 4 0 1 32), (32, zt_aload 0 33), (33, zt_getI kd 4 1 36), (36, zt_ald kd 0 37), (37, zt_iret K)]
set_option maxRecDepth 20000 in
theorem tk_X4_takeLast (d : Nat)  : zTrue RX4 cX4_takeLast 1 (some .int) (d + 1) (fun kd K => tb_X4_takeLast kd K) := by
  intro p l e R s m args below meth c D cy A ad bl Qm K C0 hr hlocks hQ
  obtain ⟨hx, hb, hml, hown, hts, hK, hD, hA0, hN, hE, ⟨hR1, hR2⟩, hc1, hc2⟩ := id C0
  unfold tb_X4_takeLast
  refine List.forall_mem_cons.mpr ⟨ok_aload_n hx hb rfl dd_X4_takeLast_0, ?_⟩
  refine List.forall_mem_cons.mpr ⟨ok_getI (j := 1) hx hb hts zi_X4 hown hK zc_X4 (by decide) rfl (fun t fl h => by cases h; rfl) (hts _ wd_168) dd_X4_takeLast_1, ?_⟩
  refine List.forall_mem_cons.mpr ⟨ok_if_le hx hb dd_X4_takeLast_4 (by decide), ?_⟩
  refine List.forall_mem_cons.mpr ⟨ok_aload_n hx hb rfl dd_X4_takeLast_7, ?_⟩
  refine List.forall_mem_cons.mpr ⟨ok_getI (j := 1) hx hb hts zi_X4 hown hK zc_X4 (by decide) rfl (fun t fl h => by cases h; rfl) (hts _ wd_168) dd_X4_takeLast_8, ?_⟩
  refine List.forall_mem_cons.mpr ⟨ok_bipush hx hb dd_X4_takeLast_11 (by decide), ?_⟩
  refine List.forall_mem_cons.mpr ⟨ok_icmp_le hx hb dd_X4_takeLast_13 (by decide), ?_⟩
  refine List.forall_mem_cons.mpr ⟨ok_iconst hx hb dd_X4_takeLast_16 (by decide), ?_⟩
  refine List.forall_mem_cons.mpr ⟨ok_iret hx hb hr hlocks hQ dd_X4_takeLast_17, ?_⟩
  refine List.forall_mem_cons.mpr ⟨ok_aload_n hx hb rfl dd_X4_takeLast_18, ?_⟩
  refine List.forall_mem_cons.mpr ⟨ok_dup hx hb dd_X4_takeLast_19, ?_⟩
  refine List.forall_mem_cons.mpr ⟨ok_getI (j := 1) hx hb hts zi_X4 hown hK zc_X4 (by decide) rfl (fun t fl h => by cases h; rfl) (hts _ wd_168) dd_X4_takeLast_20, ?_⟩
  refine List.forall_mem_cons.mpr ⟨ok_iconst hx hb dd_X4_takeLast_23 (by decide), ?_⟩
  refine List.forall_mem_cons.mpr ⟨ok_isub hx hb dd_X4_takeLast_24, ?_⟩
  refine List.forall_mem_cons.mpr ⟨ok_putI (j := 1) hx hb hts zi_X4 tyX4 tyX4_ok nmX4 hown hK hD zc_X4 (by decide) rfl rfl (by decide +kernel) (fun t fl h => by cases h; rfl) (hts _ wd_168) dd_X4_takeLast_25, ?_⟩
  refine List.forall_mem_cons.mpr ⟨ok_aload_n hx hb rfl dd_X4_takeLast_28, ?_⟩
  refine List.forall_mem_cons.mpr ⟨ok_getR (j := 0) hx hb hts zi_X4 hown hK zc_X4 (by decide) rfl (fun t fl h => by cases h; rfl) (hts _ wd_167) dd_X4_takeLast_29, ?_⟩
  refine List.forall_mem_cons.mpr ⟨ok_aload_n hx hb rfl dd_X4_takeLast_32, ?_⟩
  refine List.forall_mem_cons.mpr ⟨ok_getI (j := 1) hx hb hts zi_X4 hown hK zc_X4 (by decide) rfl (fun t fl h => by cases h; rfl) (hts _ wd_168) dd_X4_takeLast_33, ?_⟩
  refine List.forall_mem_cons.mpr ⟨ok_ald (ty := 0) rfl hx hb hK (Or.inl ⟨rfl, rfl, dd_X4_takeLast_36⟩), ?_⟩
  refine List.forall_mem_cons.mpr ⟨ok_iret hx hb hr hlocks hQ dd_X4_takeLast_37, ?_⟩
  exact fun _ h => absurd h List.not_mem_nil
set_option maxRecDepth 100000 in
theorem vc_X4_takeLast_0 {kd : Nat → Nat} {K : zK} {X : zX} (hX : ∀ (n pc : Nat) (ls : zLS) (st : List zV) (M : zM), zrun (tb_X4_takeLast kd K) [] n X pc ls st M → X pc ls st M) {t : Nat} {M : zM} (hk0 : kd t = 4) (h : (((M.1 t 0 1) ≤ 0) → K (some (zI ((-1 : Int32)))) M) ∧ ((¬ (M.1 t 0 1) ≤ 0) → (((M.1 t 0 1) ≤ (6 : Int32)) → ∀ M1 : zM, (M1 = zmw M t 0 (upd (M.1 t 0) 1 ((M.1 t 0 1) - (1 : Int32)))) → (zin (kd t) 1 0 (M1.1 t 0 1)) ∧ K (some (zI (M1.1 t 1 (M1.1 t 0 1).toNatClampNeg))) M1) ∧ ((¬ (M.1 t 0 1) ≤ (6 : Int32)) → K (some (zI ((-1 : Int32)))) M))) : X 0 [some (zR t 0)] [] M := hX 20 0 _ [] M (show (kd t = 4) ∧ (((M.1 t 0 1) ≤ 0) → K (some (zI ((-1 : Int32)))) M) ∧ ((¬ (M.1 t 0 1) ≤ 0) → (kd t = 4) ∧ (((M.1 t 0 1) ≤ (6 : Int32)) → (kd t = 4) ∧ (kd t = 4) ∧ ∀ M1 : zM, (M1 = zmw M t 0 (upd (M.1 t 0) 1 ((M.1 t 0 1) - (1 : Int32)))) → (kd t = 4) ∧ (kd t = 4) ∧ (zin (kd t) 1 0 (M1.1 t 0 1)) ∧ K (some (zI (M1.1 t 1 (M1.1 t 0 1).toNatClampNeg))) M1) ∧ ((¬ (M.1 t 0 1) ≤ (6 : Int32)) → K (some (zI ((-1 : Int32)))) M)) from ⟨hk0, ⟨fun q => have h := h.1 q; h, fun q => have h := h.2 q; ⟨hk0, ⟨fun q => have h := h.1 q; ⟨hk0, ⟨hk0, fun M1 => have h := h M1; fun q => have h := h q; ⟨hk0, ⟨hk0, ⟨h.1, have h := h.2; h⟩⟩⟩⟩⟩, fun q => have h := h.2 q; h⟩⟩⟩⟩)
def sp_X0_take : zSpec := fun kd as M K => match as with
  | [.inr (.inr (.inl (t, 0))), .inr (.inr (.inl (u, 0)))] => (kd t = 5) ∧ (kd u = 5) ∧ (¬ t = u) ∧ ∃ L : List Se, (RpL (M.1 u) L) ∧ ∀ S' : zB, (RpL S' L) → ∀ M' : zM, (M' = zbs M t S') → K none M'
  | _ => False
theorem rv_X0_take : zrv sp_X0_take 5 1 := by
  intro kd as M K h
  unfold sp_X0_take at h
  split at h
  · exact ⟨_, _, rfl, h.1⟩
  · exact h.elim
theorem dd_X0_take_0 : decode cX0_take 0 = .ok (.aload_n 0, 1) := by decide +kernel
theorem dd_X0_take_1 : decode cX0_take 1 = .ok (.aload_n 1, 1) := by decide +kernel
theorem dd_X0_take_2 : decode cX0_take 2 = .ok (.getfield 24, 3) := by decide +kernel
theorem dd_X0_take_5 : decode cX0_take 5 = .ok (.putfield 24, 3) := by decide +kernel
theorem dd_X0_take_8 : decode cX0_take 8 = .ok (.aload_n 1, 1) := by decide +kernel
theorem dd_X0_take_9 : decode cX0_take 9 = .ok (.getfield 9, 3) := by decide +kernel
theorem dd_X0_take_12 : decode cX0_take 12 = .ok (.iconst 0, 1) := by decide +kernel
theorem dd_X0_take_13 : decode cX0_take 13 = .ok (.aload_n 0, 1) := by decide +kernel
theorem dd_X0_take_14 : decode cX0_take 14 = .ok (.getfield 9, 3) := by decide +kernel
theorem dd_X0_take_17 : decode cX0_take 17 = .ok (.iconst 0, 1) := by decide +kernel
theorem dd_X0_take_18 : decode cX0_take 18 = .ok (.bipush 6, 2) := by decide +kernel
theorem dd_X0_take_20 : decode cX0_take 20 = .ok (.invokestatic 28, 3) := by decide +kernel
theorem dd_X0_take_23 : decode cX0_take 23 = .ok (.aload_n 1, 1) := by decide +kernel
theorem dd_X0_take_24 : decode cX0_take 24 = .ok (.getfield 15, 3) := by decide +kernel
theorem dd_X0_take_27 : decode cX0_take 27 = .ok (.iconst 0, 1) := by decide +kernel
theorem dd_X0_take_28 : decode cX0_take 28 = .ok (.aload_n 0, 1) := by decide +kernel
theorem dd_X0_take_29 : decode cX0_take 29 = .ok (.getfield 15, 3) := by decide +kernel
theorem dd_X0_take_32 : decode cX0_take 32 = .ok (.iconst 0, 1) := by decide +kernel
theorem dd_X0_take_33 : decode cX0_take 33 = .ok (.bipush 6, 2) := by decide +kernel
theorem dd_X0_take_35 : decode cX0_take 35 = .ok (.invokestatic 28, 3) := by decide +kernel
theorem dd_X0_take_38 : decode cX0_take 38 = .ok (.aload_n 1, 1) := by decide +kernel
theorem dd_X0_take_39 : decode cX0_take 39 = .ok (.getfield 18, 3) := by decide +kernel
theorem dd_X0_take_42 : decode cX0_take 42 = .ok (.iconst 0, 1) := by decide +kernel
theorem dd_X0_take_43 : decode cX0_take 43 = .ok (.aload_n 0, 1) := by decide +kernel
theorem dd_X0_take_44 : decode cX0_take 44 = .ok (.getfield 18, 3) := by decide +kernel
theorem dd_X0_take_47 : decode cX0_take 47 = .ok (.iconst 0, 1) := by decide +kernel
theorem dd_X0_take_48 : decode cX0_take 48 = .ok (.bipush 6, 2) := by decide +kernel
theorem dd_X0_take_50 : decode cX0_take 50 = .ok (.invokestatic 28, 3) := by decide +kernel
theorem dd_X0_take_53 : decode cX0_take 53 = .ok (.aload_n 1, 1) := by decide +kernel
theorem dd_X0_take_54 : decode cX0_take 54 = .ok (.getfield 21, 3) := by decide +kernel
theorem dd_X0_take_57 : decode cX0_take 57 = .ok (.iconst 0, 1) := by decide +kernel
theorem dd_X0_take_58 : decode cX0_take 58 = .ok (.aload_n 0, 1) := by decide +kernel
theorem dd_X0_take_59 : decode cX0_take 59 = .ok (.getfield 21, 3) := by decide +kernel
theorem dd_X0_take_62 : decode cX0_take 62 = .ok (.iconst 0, 1) := by decide +kernel
theorem dd_X0_take_63 : decode cX0_take 63 = .ok (.bipush 6, 2) := by decide +kernel
theorem dd_X0_take_65 : decode cX0_take 65 = .ok (.invokestatic 28, 3) := by decide +kernel
theorem dd_X0_take_68 : decode cX0_take 68 = .ok (.return_, 1) := by decide +kernel
def tb_X0_take (kd : Nat → Nat) (K : zK) : zTab := [(0, zt_aload 0 1), (1, zt_aload 1 2), (2, zt_getI kd 5 4 5), (5, zt_putI kd 5 4 8), (8, zt_aload 1 9), (9, zt_getR kd 5 0 1 12), (12, zt_const (zI 0) 13), (13, zt_aload 0 14), (14, zt_getR kd 5 0 1 17), (17, zt_const (zI 0) 18), (18, zt_const (zI 6) 20), (20, zt_copy kd 23), (23, zt_aload 1 24), (24, zt_getR kd 5 0 2 27), (27, zt_const (zI 0) 28), (28, zt_aload 0 29), (29, zt_getR kd 5 0 2 32), (32, zt_const (zI 0) 33), (33, zt_const (zI 6) 35), (35, zt_copy kd 38), (38, zt_aload 1 39), (39, zt_getR kd 5 0 3 42), (42, zt_const (zI 0) 43), (43, zt_aload 0 44), (44, zt_getR kd 5 0 3 47), (47, zt_const (zI 0) 48), (48, zt_const (zI 6) 50), (50, zt_copy kd 53), (53, zt_aload 1 54), (54, zt_getR kd 5 0 4 57), (57, zt_const (zI 0) 58), (58, zt_aload 0 59), (59, zt_getR kd 5 0 4 62), (62, zt_const (zI 0) 63), (63, zt_const (zI 6) 65), (65, zt_copy kd 68), (68, zt_vret K)]
set_option maxRecDepth 20000 in
theorem tk_X0_take (d : Nat)  : zTrue RX0 cX0_take 2 none (d + 1) (fun kd K => tb_X0_take kd K) := by
  intro p l e R s m args below meth c D cy A ad bl Qm K C0 hr hlocks hQ
  obtain ⟨hx, hb, hml, hown, hts, hK, hD, hA0, hN, hE, ⟨hR1, hR2⟩, hc1, hc2⟩ := id C0
  unfold tb_X0_take
  refine List.forall_mem_cons.mpr ⟨ok_aload_n hx hb rfl dd_X0_take_0, ?_⟩
  refine List.forall_mem_cons.mpr ⟨ok_aload_n hx hb rfl dd_X0_take_1, ?_⟩
  refine List.forall_mem_cons.mpr ⟨ok_getI (j := 4) hx hb hts zi_X0 hown hK zc_X0 (by decide) rfl (fun t fl h => by cases h; rfl) (hts _ wd_186) dd_X0_take_2, ?_⟩
  refine List.forall_mem_cons.mpr ⟨ok_putI (j := 4) hx hb hts zi_X0 tyX0 tyX0_ok nmX0 hown hK hD zc_X0 (by decide) rfl rfl (by decide +kernel) (fun t fl h => by cases h; rfl) (hts _ wd_186) dd_X0_take_5, ?_⟩
  refine List.forall_mem_cons.mpr ⟨ok_aload_n hx hb rfl dd_X0_take_8, ?_⟩
  refine List.forall_mem_cons.mpr ⟨ok_getR (j := 0) hx hb hts zi_X0 hown hK zc_X0 (by decide) rfl (fun t fl h => by cases h; rfl) (hts _ wd_182) dd_X0_take_9, ?_⟩
  refine List.forall_mem_cons.mpr ⟨ok_iconst hx hb dd_X0_take_12 (by decide), ?_⟩
  refine List.forall_mem_cons.mpr ⟨ok_aload_n hx hb rfl dd_X0_take_13, ?_⟩
  refine List.forall_mem_cons.mpr ⟨ok_getR (j := 0) hx hb hts zi_X0 hown hK zc_X0 (by decide) rfl (fun t fl h => by cases h; rfl) (hts _ wd_182) dd_X0_take_14, ?_⟩
  refine List.forall_mem_cons.mpr ⟨ok_iconst hx hb dd_X0_take_17 (by decide), ?_⟩
  refine List.forall_mem_cons.mpr ⟨ok_bipush hx hb dd_X0_take_18 (by decide), ?_⟩
  refine List.forall_mem_cons.mpr ⟨ok_copy hx hb hml hown (hts _ wd_793) (hts _ wd_352) (hts _ wd_351) (hts _ wd_108) hK hD ⟨by omega, by omega⟩ dd_X0_take_20, ?_⟩
  refine List.forall_mem_cons.mpr ⟨ok_aload_n hx hb rfl dd_X0_take_23, ?_⟩
  refine List.forall_mem_cons.mpr ⟨ok_getR (j := 1) hx hb hts zi_X0 hown hK zc_X0 (by decide) rfl (fun t fl h => by cases h; rfl) (hts _ wd_183) dd_X0_take_24, ?_⟩
  refine List.forall_mem_cons.mpr ⟨ok_iconst hx hb dd_X0_take_27 (by decide), ?_⟩
  refine List.forall_mem_cons.mpr ⟨ok_aload_n hx hb rfl dd_X0_take_28, ?_⟩
  refine List.forall_mem_cons.mpr ⟨ok_getR (j := 1) hx hb hts zi_X0 hown hK zc_X0 (by decide) rfl (fun t fl h => by cases h; rfl) (hts _ wd_183) dd_X0_take_29, ?_⟩
  refine List.forall_mem_cons.mpr ⟨ok_iconst hx hb dd_X0_take_32 (by decide), ?_⟩
  refine List.forall_mem_cons.mpr ⟨ok_bipush hx hb dd_X0_take_33 (by decide), ?_⟩
  refine List.forall_mem_cons.mpr ⟨ok_copy hx hb hml hown (hts _ wd_793) (hts _ wd_352) (hts _ wd_351) (hts _ wd_108) hK hD ⟨by omega, by omega⟩ dd_X0_take_35, ?_⟩
  refine List.forall_mem_cons.mpr ⟨ok_aload_n hx hb rfl dd_X0_take_38, ?_⟩
  refine List.forall_mem_cons.mpr ⟨ok_getR (j := 2) hx hb hts zi_X0 hown hK zc_X0 (by decide) rfl (fun t fl h => by cases h; rfl) (hts _ wd_184) dd_X0_take_39, ?_⟩
  refine List.forall_mem_cons.mpr ⟨ok_iconst hx hb dd_X0_take_42 (by decide), ?_⟩
  refine List.forall_mem_cons.mpr ⟨ok_aload_n hx hb rfl dd_X0_take_43, ?_⟩
  refine List.forall_mem_cons.mpr ⟨ok_getR (j := 2) hx hb hts zi_X0 hown hK zc_X0 (by decide) rfl (fun t fl h => by cases h; rfl) (hts _ wd_184) dd_X0_take_44, ?_⟩
  refine List.forall_mem_cons.mpr ⟨ok_iconst hx hb dd_X0_take_47 (by decide), ?_⟩
  refine List.forall_mem_cons.mpr ⟨ok_bipush hx hb dd_X0_take_48 (by decide), ?_⟩
  refine List.forall_mem_cons.mpr ⟨ok_copy hx hb hml hown (hts _ wd_793) (hts _ wd_352) (hts _ wd_351) (hts _ wd_108) hK hD ⟨by omega, by omega⟩ dd_X0_take_50, ?_⟩
  refine List.forall_mem_cons.mpr ⟨ok_aload_n hx hb rfl dd_X0_take_53, ?_⟩
  refine List.forall_mem_cons.mpr ⟨ok_getR (j := 3) hx hb hts zi_X0 hown hK zc_X0 (by decide) rfl (fun t fl h => by cases h; rfl) (hts _ wd_185) dd_X0_take_54, ?_⟩
  refine List.forall_mem_cons.mpr ⟨ok_iconst hx hb dd_X0_take_57 (by decide), ?_⟩
  refine List.forall_mem_cons.mpr ⟨ok_aload_n hx hb rfl dd_X0_take_58, ?_⟩
  refine List.forall_mem_cons.mpr ⟨ok_getR (j := 3) hx hb hts zi_X0 hown hK zc_X0 (by decide) rfl (fun t fl h => by cases h; rfl) (hts _ wd_185) dd_X0_take_59, ?_⟩
  refine List.forall_mem_cons.mpr ⟨ok_iconst hx hb dd_X0_take_62 (by decide), ?_⟩
  refine List.forall_mem_cons.mpr ⟨ok_bipush hx hb dd_X0_take_63 (by decide), ?_⟩
  refine List.forall_mem_cons.mpr ⟨ok_copy hx hb hml hown (hts _ wd_793) (hts _ wd_352) (hts _ wd_351) (hts _ wd_108) hK hD ⟨by omega, by omega⟩ dd_X0_take_65, ?_⟩
  refine List.forall_mem_cons.mpr ⟨ok_vret hx hb hr hlocks hQ dd_X0_take_68, ?_⟩
  exact fun _ h => absurd h List.not_mem_nil
set_option maxRecDepth 100000 in
theorem vc_X0_take_0 {kd : Nat → Nat} {K : zK} {X : zX} (hX : ∀ (n pc : Nat) (ls : zLS) (st : List zV) (M : zM), zrun (tb_X0_take kd K) [] n X pc ls st M → X pc ls st M) {t : Nat} {u : Nat} {M : zM} (hk0 : kd t = 5) (hk1 : kd u = 5) (h : ∀ M1 : zM, (M1 = zmw M t 0 (upd (M.1 t 0) 4 (M.1 u 0 4))) → (zcpok (kd u) 1 (kd t) 1 (0 : Int32) (0 : Int32) (6 : Int32)) ∧ ∀ M2 : zM, (M2 = zcpy M1 u 1 t 1 ((0 : Int32)).toNatClampNeg ((0 : Int32)).toNatClampNeg ((6 : Int32)).toNatClampNeg) → (zcpok (kd u) 2 (kd t) 2 (0 : Int32) (0 : Int32) (6 : Int32)) ∧ ∀ M3 : zM, (M3 = zcpy M2 u 2 t 2 ((0 : Int32)).toNatClampNeg ((0 : Int32)).toNatClampNeg ((6 : Int32)).toNatClampNeg) → (zcpok (kd u) 3 (kd t) 3 (0 : Int32) (0 : Int32) (6 : Int32)) ∧ ∀ M4 : zM, (M4 = zcpy M3 u 3 t 3 ((0 : Int32)).toNatClampNeg ((0 : Int32)).toNatClampNeg ((6 : Int32)).toNatClampNeg) → (zcpok (kd u) 4 (kd t) 4 (0 : Int32) (0 : Int32) (6 : Int32)) ∧ ∀ M5 : zM, (M5 = zcpy M4 u 4 t 4 ((0 : Int32)).toNatClampNeg ((0 : Int32)).toNatClampNeg ((6 : Int32)).toNatClampNeg) → K none M5) : X 0 [some (zR t 0), some (zR u 0)] [] M := hX 38 0 _ [] M (show (kd u = 5) ∧ (kd t = 5) ∧ ∀ M1 : zM, (M1 = zmw M t 0 (upd (M.1 t 0) 4 (M.1 u 0 4))) → (kd u = 5) ∧ (kd t = 5) ∧ (zcpok (kd u) 1 (kd t) 1 (0 : Int32) (0 : Int32) (6 : Int32)) ∧ ∀ M2 : zM, (M2 = zcpy M1 u 1 t 1 ((0 : Int32)).toNatClampNeg ((0 : Int32)).toNatClampNeg ((6 : Int32)).toNatClampNeg) → (kd u = 5) ∧ (kd t = 5) ∧ (zcpok (kd u) 2 (kd t) 2 (0 : Int32) (0 : Int32) (6 : Int32)) ∧ ∀ M3 : zM, (M3 = zcpy M2 u 2 t 2 ((0 : Int32)).toNatClampNeg ((0 : Int32)).toNatClampNeg ((6 : Int32)).toNatClampNeg) → (kd u = 5) ∧ (kd t = 5) ∧ (zcpok (kd u) 3 (kd t) 3 (0 : Int32) (0 : Int32) (6 : Int32)) ∧ ∀ M4 : zM, (M4 = zcpy M3 u 3 t 3 ((0 : Int32)).toNatClampNeg ((0 : Int32)).toNatClampNeg ((6 : Int32)).toNatClampNeg) → (kd u = 5) ∧ (kd t = 5) ∧ (zcpok (kd u) 4 (kd t) 4 (0 : Int32) (0 : Int32) (6 : Int32)) ∧ ∀ M5 : zM, (M5 = zcpy M4 u 4 t 4 ((0 : Int32)).toNatClampNeg ((0 : Int32)).toNatClampNeg ((6 : Int32)).toNatClampNeg) → K none M5 from ⟨hk1, ⟨hk0, fun M1 => have h := h M1; fun q => have h := h q; ⟨hk1, ⟨hk0, ⟨h.1, have h := h.2; fun M2 => have h := h M2; fun q => have h := h q; ⟨hk1, ⟨hk0, ⟨h.1, have h := h.2; fun M3 => have h := h M3; fun q => have h := h q; ⟨hk1, ⟨hk0, ⟨h.1, have h := h.2; fun M4 => have h := h M4; fun q => have h := h q; ⟨hk1, ⟨hk0, ⟨h.1, have h := h.2; fun M5 => have h := h M5; fun q => have h := h q; h⟩⟩⟩⟩⟩⟩⟩⟩⟩⟩⟩⟩⟩⟩)
def sp_X0_add : zSpec := fun kd as M K => match as with
  | [.inr (.inr (.inl (t, 0))), .inl c, .inl i, .inl y, .inl b] => (kd t = 5) ∧ ∃ L : List Se, (RpL (M.1 t) L) ∧ (L.length < 6) ∧ (okSe (c.toInt, i.toInt, y.toInt, b.toInt)) ∧ ∀ v : Int32, (v.toInt = (L.length : Int) + 1) → ∀ S' : zB, (RpL S' (L ++ [(c.toInt, i.toInt, y.toInt, b.toInt)])) → ∀ M' : zM, (M' = zbs M t S') → K (some (.inl v)) M'
  | _ => False
theorem rv_X0_add : zrv sp_X0_add 5 4 := by
  intro kd as M K h
  unfold sp_X0_add at h
  split at h
  · exact ⟨_, _, rfl, h.1⟩
  · exact h.elim
theorem dd_X0_add_0 : decode cX0_add 0 = .ok (.aload_n 0, 1) := by decide +kernel
theorem dd_X0_add_1 : decode cX0_add 1 = .ok (.getfield 24, 3) := by decide +kernel
theorem dd_X0_add_4 : decode cX0_add 4 = .ok (.ifCond .lt 63, 3) := by decide +kernel
theorem dd_X0_add_7 : decode cX0_add 7 = .ok (.aload_n 0, 1) := by decide +kernel
theorem dd_X0_add_8 : decode cX0_add 8 = .ok (.getfield 24, 3) := by decide +kernel
theorem dd_X0_add_11 : decode cX0_add 11 = .ok (.bipush 6, 2) := by decide +kernel
theorem dd_X0_add_13 : decode cX0_add 13 = .ok (.if_icmp .ge 54, 3) := by decide +kernel
theorem dd_X0_add_16 : decode cX0_add 16 = .ok (.aload_n 0, 1) := by decide +kernel
theorem dd_X0_add_17 : decode cX0_add 17 = .ok (.getfield 9, 3) := by decide +kernel
theorem dd_X0_add_20 : decode cX0_add 20 = .ok (.aload_n 0, 1) := by decide +kernel
theorem dd_X0_add_21 : decode cX0_add 21 = .ok (.getfield 24, 3) := by decide +kernel
theorem dd_X0_add_24 : decode cX0_add 24 = .ok (.iload_n 1, 1) := by decide +kernel
theorem dd_X0_add_25 : decode cX0_add 25 = .ok (.iastore, 1) := by decide +kernel
theorem dd_X0_add_26 : decode cX0_add 26 = .ok (.aload_n 0, 1) := by decide +kernel
theorem dd_X0_add_27 : decode cX0_add 27 = .ok (.getfield 15, 3) := by decide +kernel
theorem dd_X0_add_30 : decode cX0_add 30 = .ok (.aload_n 0, 1) := by decide +kernel
theorem dd_X0_add_31 : decode cX0_add 31 = .ok (.getfield 24, 3) := by decide +kernel
theorem dd_X0_add_34 : decode cX0_add 34 = .ok (.iload_n 2, 1) := by decide +kernel
theorem dd_X0_add_35 : decode cX0_add 35 = .ok (.iastore, 1) := by decide +kernel
theorem dd_X0_add_36 : decode cX0_add 36 = .ok (.aload_n 0, 1) := by decide +kernel
theorem dd_X0_add_37 : decode cX0_add 37 = .ok (.getfield 18, 3) := by decide +kernel
theorem dd_X0_add_40 : decode cX0_add 40 = .ok (.aload_n 0, 1) := by decide +kernel
theorem dd_X0_add_41 : decode cX0_add 41 = .ok (.getfield 24, 3) := by decide +kernel
theorem dd_X0_add_44 : decode cX0_add 44 = .ok (.iload_n 3, 1) := by decide +kernel
theorem dd_X0_add_45 : decode cX0_add 45 = .ok (.iastore, 1) := by decide +kernel
theorem dd_X0_add_46 : decode cX0_add 46 = .ok (.aload_n 0, 1) := by decide +kernel
theorem dd_X0_add_47 : decode cX0_add 47 = .ok (.getfield 21, 3) := by decide +kernel
theorem dd_X0_add_50 : decode cX0_add 50 = .ok (.aload_n 0, 1) := by decide +kernel
theorem dd_X0_add_51 : decode cX0_add 51 = .ok (.getfield 24, 3) := by decide +kernel
theorem dd_X0_add_54 : decode cX0_add 54 = .ok (.iload 4, 2) := by decide +kernel
theorem dd_X0_add_56 : decode cX0_add 56 = .ok (.iastore, 1) := by decide +kernel
theorem dd_X0_add_57 : decode cX0_add 57 = .ok (.aload_n 0, 1) := by decide +kernel
theorem dd_X0_add_58 : decode cX0_add 58 = .ok (.dup, 1) := by decide +kernel
theorem dd_X0_add_59 : decode cX0_add 59 = .ok (.getfield 24, 3) := by decide +kernel
theorem dd_X0_add_62 : decode cX0_add 62 = .ok (.iconst 1, 1) := by decide +kernel
theorem dd_X0_add_63 : decode cX0_add 63 = .ok (.iadd, 1) := by decide +kernel
theorem dd_X0_add_64 : decode cX0_add 64 = .ok (.putfield 24, 3) := by decide +kernel
theorem dd_X0_add_67 : decode cX0_add 67 = .ok (.aload_n 0, 1) := by decide +kernel
theorem dd_X0_add_68 : decode cX0_add 68 = .ok (.getfield 24, 3) := by decide +kernel
theorem dd_X0_add_71 : decode cX0_add 71 = .ok (.ireturn, 1) := by decide +kernel
def tb_X0_add (kd : Nat → Nat) (K : zK) : zTab := [(0, zt_aload 0 1), (1, zt_getI kd 5 4 4), (4, zt_if (fun x => x < 0) (fun x => ¬ x < 0) 67 7), (7, zt_aload 0 8), (8, zt_getI kd 5 4 11), (11, zt_const (zI 6) 13), (13, zt_icmp (fun x y => y ≤ x) (fun x y => ¬ y ≤ x) 67 16), (16, zt_aload 0 17), (17, zt_getR kd 5 0 1 20), (20, zt_aload 0 21), (21, zt_getI kd 5 4 24), (24, zt_iload 1 25), (25, zt_ast kd 0 26), (26, zt_aload 0 27), (27, zt_getR kd 5 0 2 30), (30, zt_aload 0 31), (31, zt_getI kd 5 4 34), (34, zt_iload 2 35), (35, zt_ast kd 0 36), (36, zt_aload 0 37), (37, zt_getR kd 5 0 3 40), (40, zt_aload 0 41), (41, zt_getI kd 5 4 44), (44, zt_iload 3 45), (45, zt_ast kd 0 46), (46, zt_aload 0 47), (47, zt_getR kd 5 0 4 50), (50, zt_aload 0 51), (51, zt_getI kd 5 4 54), (54, zt_iload 4 56), (56, zt_ast kd 0 57), (57, zt_aload 0 58), (58, zt_dup 59), (59, zt_getI kd 5 4 62), (62, zt_const (zI 1) 63), (63, zt_bin (fun x y => x + y) 64), (64, zt_putI kd 5 4 67), (67, zt_aload 0 68), (68, zt_getI kd 5 4 71), (71, zt_iret K)]
set_option maxRecDepth 20000 in
theorem tk_X0_add (d : Nat)  : zTrue RX0 cX0_add 5 (some .int) (d + 1) (fun kd K => tb_X0_add kd K) := by
  intro p l e R s m args below meth c D cy A ad bl Qm K C0 hr hlocks hQ
  obtain ⟨hx, hb, hml, hown, hts, hK, hD, hA0, hN, hE, ⟨hR1, hR2⟩, hc1, hc2⟩ := id C0
  unfold tb_X0_add
  refine List.forall_mem_cons.mpr ⟨ok_aload_n hx hb rfl dd_X0_add_0, ?_⟩
  refine List.forall_mem_cons.mpr ⟨ok_getI (j := 4) hx hb hts zi_X0 hown hK zc_X0 (by decide) rfl (fun t fl h => by cases h; rfl) (hts _ wd_186) dd_X0_add_1, ?_⟩
  refine List.forall_mem_cons.mpr ⟨ok_if_lt hx hb dd_X0_add_4 (by decide), ?_⟩
  refine List.forall_mem_cons.mpr ⟨ok_aload_n hx hb rfl dd_X0_add_7, ?_⟩
  refine List.forall_mem_cons.mpr ⟨ok_getI (j := 4) hx hb hts zi_X0 hown hK zc_X0 (by decide) rfl (fun t fl h => by cases h; rfl) (hts _ wd_186) dd_X0_add_8, ?_⟩
  refine List.forall_mem_cons.mpr ⟨ok_bipush hx hb dd_X0_add_11 (by decide), ?_⟩
  refine List.forall_mem_cons.mpr ⟨ok_icmp_ge hx hb dd_X0_add_13 (by decide), ?_⟩
  refine List.forall_mem_cons.mpr ⟨ok_aload_n hx hb rfl dd_X0_add_16, ?_⟩
  refine List.forall_mem_cons.mpr ⟨ok_getR (j := 0) hx hb hts zi_X0 hown hK zc_X0 (by decide) rfl (fun t fl h => by cases h; rfl) (hts _ wd_182) dd_X0_add_17, ?_⟩
  refine List.forall_mem_cons.mpr ⟨ok_aload_n hx hb rfl dd_X0_add_20, ?_⟩
  refine List.forall_mem_cons.mpr ⟨ok_getI (j := 4) hx hb hts zi_X0 hown hK zc_X0 (by decide) rfl (fun t fl h => by cases h; rfl) (hts _ wd_186) dd_X0_add_21, ?_⟩
  refine List.forall_mem_cons.mpr ⟨ok_iload_n hx hb rfl dd_X0_add_24, ?_⟩
  refine List.forall_mem_cons.mpr ⟨ok_ast (ty := 0) rfl hx hb hK hD (Or.inl ⟨rfl, rfl, dd_X0_add_25⟩), ?_⟩
  refine List.forall_mem_cons.mpr ⟨ok_aload_n hx hb rfl dd_X0_add_26, ?_⟩
  refine List.forall_mem_cons.mpr ⟨ok_getR (j := 1) hx hb hts zi_X0 hown hK zc_X0 (by decide) rfl (fun t fl h => by cases h; rfl) (hts _ wd_183) dd_X0_add_27, ?_⟩
  refine List.forall_mem_cons.mpr ⟨ok_aload_n hx hb rfl dd_X0_add_30, ?_⟩
  refine List.forall_mem_cons.mpr ⟨ok_getI (j := 4) hx hb hts zi_X0 hown hK zc_X0 (by decide) rfl (fun t fl h => by cases h; rfl) (hts _ wd_186) dd_X0_add_31, ?_⟩
  refine List.forall_mem_cons.mpr ⟨ok_iload_n hx hb rfl dd_X0_add_34, ?_⟩
  refine List.forall_mem_cons.mpr ⟨ok_ast (ty := 0) rfl hx hb hK hD (Or.inl ⟨rfl, rfl, dd_X0_add_35⟩), ?_⟩
  refine List.forall_mem_cons.mpr ⟨ok_aload_n hx hb rfl dd_X0_add_36, ?_⟩
  refine List.forall_mem_cons.mpr ⟨ok_getR (j := 2) hx hb hts zi_X0 hown hK zc_X0 (by decide) rfl (fun t fl h => by cases h; rfl) (hts _ wd_184) dd_X0_add_37, ?_⟩
  refine List.forall_mem_cons.mpr ⟨ok_aload_n hx hb rfl dd_X0_add_40, ?_⟩
  refine List.forall_mem_cons.mpr ⟨ok_getI (j := 4) hx hb hts zi_X0 hown hK zc_X0 (by decide) rfl (fun t fl h => by cases h; rfl) (hts _ wd_186) dd_X0_add_41, ?_⟩
  refine List.forall_mem_cons.mpr ⟨ok_iload_n hx hb rfl dd_X0_add_44, ?_⟩
  refine List.forall_mem_cons.mpr ⟨ok_ast (ty := 0) rfl hx hb hK hD (Or.inl ⟨rfl, rfl, dd_X0_add_45⟩), ?_⟩
  refine List.forall_mem_cons.mpr ⟨ok_aload_n hx hb rfl dd_X0_add_46, ?_⟩
  refine List.forall_mem_cons.mpr ⟨ok_getR (j := 3) hx hb hts zi_X0 hown hK zc_X0 (by decide) rfl (fun t fl h => by cases h; rfl) (hts _ wd_185) dd_X0_add_47, ?_⟩
  refine List.forall_mem_cons.mpr ⟨ok_aload_n hx hb rfl dd_X0_add_50, ?_⟩
  refine List.forall_mem_cons.mpr ⟨ok_getI (j := 4) hx hb hts zi_X0 hown hK zc_X0 (by decide) rfl (fun t fl h => by cases h; rfl) (hts _ wd_186) dd_X0_add_51, ?_⟩
  refine List.forall_mem_cons.mpr ⟨ok_iload hx hb dd_X0_add_54, ?_⟩
  refine List.forall_mem_cons.mpr ⟨ok_ast (ty := 0) rfl hx hb hK hD (Or.inl ⟨rfl, rfl, dd_X0_add_56⟩), ?_⟩
  refine List.forall_mem_cons.mpr ⟨ok_aload_n hx hb rfl dd_X0_add_57, ?_⟩
  refine List.forall_mem_cons.mpr ⟨ok_dup hx hb dd_X0_add_58, ?_⟩
  refine List.forall_mem_cons.mpr ⟨ok_getI (j := 4) hx hb hts zi_X0 hown hK zc_X0 (by decide) rfl (fun t fl h => by cases h; rfl) (hts _ wd_186) dd_X0_add_59, ?_⟩
  refine List.forall_mem_cons.mpr ⟨ok_iconst hx hb dd_X0_add_62 (by decide), ?_⟩
  refine List.forall_mem_cons.mpr ⟨ok_iadd hx hb dd_X0_add_63, ?_⟩
  refine List.forall_mem_cons.mpr ⟨ok_putI (j := 4) hx hb hts zi_X0 tyX0 tyX0_ok nmX0 hown hK hD zc_X0 (by decide) rfl rfl (by decide +kernel) (fun t fl h => by cases h; rfl) (hts _ wd_186) dd_X0_add_64, ?_⟩
  refine List.forall_mem_cons.mpr ⟨ok_aload_n hx hb rfl dd_X0_add_67, ?_⟩
  refine List.forall_mem_cons.mpr ⟨ok_getI (j := 4) hx hb hts zi_X0 hown hK zc_X0 (by decide) rfl (fun t fl h => by cases h; rfl) (hts _ wd_186) dd_X0_add_68, ?_⟩
  refine List.forall_mem_cons.mpr ⟨ok_iret hx hb hr hlocks hQ dd_X0_add_71, ?_⟩
  exact fun _ h => absurd h List.not_mem_nil
set_option maxRecDepth 100000 in
theorem vc_X0_add_0 {kd : Nat → Nat} {K : zK} {X : zX} (hX : ∀ (n pc : Nat) (ls : zLS) (st : List zV) (M : zM), zrun (tb_X0_add kd K) [] n X pc ls st M → X pc ls st M) {t : Nat} {c : Int32} {i : Int32} {y : Int32} {b : Int32} {M : zM} (hk0 : kd t = 5) (h : (((M.1 t 0 4) < 0) → K (some (zI (M.1 t 0 4))) M) ∧ ((¬ (M.1 t 0 4) < 0) → (((6 : Int32) ≤ (M.1 t 0 4)) → K (some (zI (M.1 t 0 4))) M) ∧ ((¬ (6 : Int32) ≤ (M.1 t 0 4)) → (zin (kd t) 1 0 (M.1 t 0 4)) ∧ ∀ M1 : zM, (M1 = zmw M t 1 (upd (M.1 t 1) (M.1 t 0 4).toNatClampNeg c)) → (zin (kd t) 2 0 (M1.1 t 0 4)) ∧ ∀ M2 : zM, (M2 = zmw M1 t 2 (upd (M1.1 t 2) (M1.1 t 0 4).toNatClampNeg i)) → (zin (kd t) 3 0 (M2.1 t 0 4)) ∧ ∀ M3 : zM, (M3 = zmw M2 t 3 (upd (M2.1 t 3) (M2.1 t 0 4).toNatClampNeg y)) → (zin (kd t) 4 0 (M3.1 t 0 4)) ∧ ∀ M4 : zM, (M4 = zmw M3 t 4 (upd (M3.1 t 4) (M3.1 t 0 4).toNatClampNeg b)) → ∀ M5 : zM, (M5 = zmw M4 t 0 (upd (M4.1 t 0) 4 ((M4.1 t 0 4) + (1 : Int32)))) → K (some (zI (M5.1 t 0 4))) M5))) : X 0 [some (zR t 0), some (zI (c)), some (zI (i)), some (zI (y)), some (zI (b))] [] M := hX 41 0 _ [] M (show (kd t = 5) ∧ (((M.1 t 0 4) < 0) → (kd t = 5) ∧ K (some (zI (M.1 t 0 4))) M) ∧ ((¬ (M.1 t 0 4) < 0) → (kd t = 5) ∧ (((6 : Int32) ≤ (M.1 t 0 4)) → (kd t = 5) ∧ K (some (zI (M.1 t 0 4))) M) ∧ ((¬ (6 : Int32) ≤ (M.1 t 0 4)) → (kd t = 5) ∧ (kd t = 5) ∧ (zin (kd t) 1 0 (M.1 t 0 4)) ∧ ∀ M1 : zM, (M1 = zmw M t 1 (upd (M.1 t 1) (M.1 t 0 4).toNatClampNeg c)) → (kd t = 5) ∧ (kd t = 5) ∧ (zin (kd t) 2 0 (M1.1 t 0 4)) ∧ ∀ M2 : zM, (M2 = zmw M1 t 2 (upd (M1.1 t 2) (M1.1 t 0 4).toNatClampNeg i)) → (kd t = 5) ∧ (kd t = 5) ∧ (zin (kd t) 3 0 (M2.1 t 0 4)) ∧ ∀ M3 : zM, (M3 = zmw M2 t 3 (upd (M2.1 t 3) (M2.1 t 0 4).toNatClampNeg y)) → (kd t = 5) ∧ (kd t = 5) ∧ (zin (kd t) 4 0 (M3.1 t 0 4)) ∧ ∀ M4 : zM, (M4 = zmw M3 t 4 (upd (M3.1 t 4) (M3.1 t 0 4).toNatClampNeg b)) → (kd t = 5) ∧ (kd t = 5) ∧ ∀ M5 : zM, (M5 = zmw M4 t 0 (upd (M4.1 t 0) 4 ((M4.1 t 0 4) + (1 : Int32)))) → (kd t = 5) ∧ K (some (zI (M5.1 t 0 4))) M5)) from ⟨hk0, ⟨fun q => have h := h.1 q; ⟨hk0, h⟩, fun q => have h := h.2 q; ⟨hk0, ⟨fun q => have h := h.1 q; ⟨hk0, h⟩, fun q => have h := h.2 q; ⟨hk0, ⟨hk0, ⟨h.1, have h := h.2; fun M1 => have h := h M1; fun q => have h := h q; ⟨hk0, ⟨hk0, ⟨h.1, have h := h.2; fun M2 => have h := h M2; fun q => have h := h q; ⟨hk0, ⟨hk0, ⟨h.1, have h := h.2; fun M3 => have h := h M3; fun q => have h := h q; ⟨hk0, ⟨hk0, ⟨h.1, have h := h.2; fun M4 => have h := h M4; fun q => have h := h q; ⟨hk0, ⟨hk0, fun M5 => have h := h M5; fun q => have h := h q; ⟨hk0, h⟩⟩⟩⟩⟩⟩⟩⟩⟩⟩⟩⟩⟩⟩⟩⟩⟩⟩⟩)
def sp_X0_empty : zSpec := fun kd as M K => match as with
  | [.inr (.inr (.inl (t, 0)))] => (kd t = 5) ∧ ∃ L : List Se, (RpL (M.1 t) L) ∧ ∀ v : Int32, (v.toInt = (L.length : Int)) → ∀ S' : zB, (RpL S' []) → ∀ M' : zM, (M' = zbs M t S') → K (some (.inl v)) M'
  | _ => False
theorem rv_X0_empty : zrv sp_X0_empty 5 0 := by
  intro kd as M K h
  unfold sp_X0_empty at h
  split at h
  · exact ⟨_, _, rfl, h.1⟩
  · exact h.elim
theorem dd_X0_empty_0 : decode cX0_empty 0 = .ok (.aload_n 0, 1) := by decide +kernel
theorem dd_X0_empty_1 : decode cX0_empty 1 = .ok (.getfield 24, 3) := by decide +kernel
theorem dd_X0_empty_4 : decode cX0_empty 4 = .ok (.istore_n 1, 1) := by decide +kernel
theorem dd_X0_empty_5 : decode cX0_empty 5 = .ok (.aload_n 0, 1) := by decide +kernel
theorem dd_X0_empty_6 : decode cX0_empty 6 = .ok (.iconst 0, 1) := by decide +kernel
theorem dd_X0_empty_7 : decode cX0_empty 7 = .ok (.putfield 24, 3) := by decide +kernel
theorem dd_X0_empty_10 : decode cX0_empty 10 = .ok (.iload_n 1, 1) := by decide +kernel
theorem dd_X0_empty_11 : decode cX0_empty 11 = .ok (.ireturn, 1) := by decide +kernel
def tb_X0_empty (kd : Nat → Nat) (K : zK) : zTab := [(0, zt_aload 0 1), (1, zt_getI kd 5 4 4), (4, zt_istore 1 5), (5, zt_aload 0 6), (6, zt_const (zI 0) 7), (7, zt_putI kd 5 4 10), (10, zt_iload 1 11), (11, zt_iret K)]
set_option maxRecDepth 20000 in
theorem tk_X0_empty (d : Nat)  : zTrue RX0 cX0_empty 2 (some .int) (d + 1) (fun kd K => tb_X0_empty kd K) := by
  intro p l e R s m args below meth c D cy A ad bl Qm K C0 hr hlocks hQ
  obtain ⟨hx, hb, hml, hown, hts, hK, hD, hA0, hN, hE, ⟨hR1, hR2⟩, hc1, hc2⟩ := id C0
  unfold tb_X0_empty
  refine List.forall_mem_cons.mpr ⟨ok_aload_n hx hb rfl dd_X0_empty_0, ?_⟩
  refine List.forall_mem_cons.mpr ⟨ok_getI (j := 4) hx hb hts zi_X0 hown hK zc_X0 (by decide) rfl (fun t fl h => by cases h; rfl) (hts _ wd_186) dd_X0_empty_1, ?_⟩
  refine List.forall_mem_cons.mpr ⟨ok_istore_n hx hb rfl dd_X0_empty_4, ?_⟩
  refine List.forall_mem_cons.mpr ⟨ok_aload_n hx hb rfl dd_X0_empty_5, ?_⟩
  refine List.forall_mem_cons.mpr ⟨ok_iconst hx hb dd_X0_empty_6 (by decide), ?_⟩
  refine List.forall_mem_cons.mpr ⟨ok_putI (j := 4) hx hb hts zi_X0 tyX0 tyX0_ok nmX0 hown hK hD zc_X0 (by decide) rfl rfl (by decide +kernel) (fun t fl h => by cases h; rfl) (hts _ wd_186) dd_X0_empty_7, ?_⟩
  refine List.forall_mem_cons.mpr ⟨ok_iload_n hx hb rfl dd_X0_empty_10, ?_⟩
  refine List.forall_mem_cons.mpr ⟨ok_iret hx hb hr hlocks hQ dd_X0_empty_11, ?_⟩
  exact fun _ h => absurd h List.not_mem_nil
set_option maxRecDepth 100000 in
theorem vc_X0_empty_0 {kd : Nat → Nat} {K : zK} {X : zX} (hX : ∀ (n pc : Nat) (ls : zLS) (st : List zV) (M : zM), zrun (tb_X0_empty kd K) [] n X pc ls st M → X pc ls st M) {t : Nat} {M : zM} (hk0 : kd t = 5) (h : ∀ M1 : zM, (M1 = zmw M t 0 (upd (M.1 t 0) 4 (0 : Int32))) → K (some (zI (M.1 t 0 4))) M1) : X 0 [some (zR t 0), none] [] M := hX 9 0 _ [] M (show (kd t = 5) ∧ (kd t = 5) ∧ ∀ M1 : zM, (M1 = zmw M t 0 (upd (M.1 t 0) 4 (0 : Int32))) → K (some (zI (M.1 t 0 4))) M1 from ⟨hk0, ⟨hk0, fun M1 => have h := h M1; fun q => have h := h q; h⟩⟩)
def sp_X0_fits : zSpec := fun kd as M K => match as with
  | [.inr (.inr (.inl (t, 0))), .inr (.inr (.inl (u, 0))), .inl k, .inl c, .inl i] => (kd t = 5) ∧ (kd u = 3) ∧ ∃ L : List Se, (RpL (M.1 t) L) ∧ ∃ a : Sk, (RpS (M.1 u) a) ∧ ∃ l : Ly, (sk_at a c.toInt i.toInt = some l) ∧ ∀ v : Int32, (v = zp (L.all (seOk k.toInt l (sk_at a c.toInt (i.toInt + 1)) c.toInt i.toInt) = true)) → K (some (.inl v)) M
  | _ => False
theorem rv_X0_fits : zrv sp_X0_fits 5 4 := by
  intro kd as M K h
  unfold sp_X0_fits at h
  split at h
  · exact ⟨_, _, rfl, h.1⟩
  · exact h.elim
theorem dd_X0_fits_0 : decode cX0_fits 0 = .ok (.iconst 0, 1) := by decide +kernel
theorem dd_X0_fits_1 : decode cX0_fits 1 = .ok (.istore 5, 2) := by decide +kernel
theorem dd_X0_fits_3 : decode cX0_fits 3 = .ok (.iload 5, 2) := by decide +kernel
theorem dd_X0_fits_5 : decode cX0_fits 5 = .ok (.aload_n 0, 1) := by decide +kernel
theorem dd_X0_fits_6 : decode cX0_fits 6 = .ok (.getfield 24, 3) := by decide +kernel
theorem dd_X0_fits_9 : decode cX0_fits 9 = .ok (.if_icmp .ge 87, 3) := by decide +kernel
theorem dd_X0_fits_12 : decode cX0_fits 12 = .ok (.iload 5, 2) := by decide +kernel
theorem dd_X0_fits_14 : decode cX0_fits 14 = .ok (.bipush 6, 2) := by decide +kernel
theorem dd_X0_fits_16 : decode cX0_fits 16 = .ok (.if_icmp .ge 80, 3) := by decide +kernel
theorem dd_X0_fits_19 : decode cX0_fits 19 = .ok (.aload_n 0, 1) := by decide +kernel
theorem dd_X0_fits_20 : decode cX0_fits 20 = .ok (.getfield 9, 3) := by decide +kernel
theorem dd_X0_fits_23 : decode cX0_fits 23 = .ok (.iload 5, 2) := by decide +kernel
theorem dd_X0_fits_25 : decode cX0_fits 25 = .ok (.iaload, 1) := by decide +kernel
theorem dd_X0_fits_26 : decode cX0_fits 26 = .ok (.iload_n 3, 1) := by decide +kernel
theorem dd_X0_fits_27 : decode cX0_fits 27 = .ok (.if_icmp .ne 19, 3) := by decide +kernel
theorem dd_X0_fits_30 : decode cX0_fits 30 = .ok (.aload_n 0, 1) := by decide +kernel
theorem dd_X0_fits_31 : decode cX0_fits 31 = .ok (.getfield 15, 3) := by decide +kernel
theorem dd_X0_fits_34 : decode cX0_fits 34 = .ok (.iload 5, 2) := by decide +kernel
theorem dd_X0_fits_36 : decode cX0_fits 36 = .ok (.iaload, 1) := by decide +kernel
theorem dd_X0_fits_37 : decode cX0_fits 37 = .ok (.iload 4, 2) := by decide +kernel
theorem dd_X0_fits_39 : decode cX0_fits 39 = .ok (.if_icmp .ne 7, 3) := by decide +kernel
theorem dd_X0_fits_42 : decode cX0_fits 42 = .ok (.iconst 1, 1) := by decide +kernel
theorem dd_X0_fits_43 : decode cX0_fits 43 = .ok (.goto 4, 3) := by decide +kernel
theorem dd_X0_fits_46 : decode cX0_fits 46 = .ok (.iconst 0, 1) := by decide +kernel
theorem dd_X0_fits_47 : decode cX0_fits 47 = .ok (.istore 6, 2) := by decide +kernel
theorem dd_X0_fits_49 : decode cX0_fits 49 = .ok (.iload 6, 2) := by decide +kernel
theorem dd_X0_fits_51 : decode cX0_fits 51 = .ok (.ifCond .eq 39, 3) := by decide +kernel
theorem dd_X0_fits_54 : decode cX0_fits 54 = .ok (.aload_n 1, 1) := by decide +kernel
theorem dd_X0_fits_55 : decode cX0_fits 55 = .ok (.iload_n 2, 1) := by decide +kernel
theorem dd_X0_fits_56 : decode cX0_fits 56 = .ok (.iload_n 3, 1) := by decide +kernel
theorem dd_X0_fits_57 : decode cX0_fits 57 = .ok (.iload 4, 2) := by decide +kernel
theorem dd_X0_fits_59 : decode cX0_fits 59 = .ok (.aload_n 0, 1) := by decide +kernel
theorem dd_X0_fits_60 : decode cX0_fits 60 = .ok (.getfield 18, 3) := by decide +kernel
theorem dd_X0_fits_63 : decode cX0_fits 63 = .ok (.iload 5, 2) := by decide +kernel
theorem dd_X0_fits_65 : decode cX0_fits 65 = .ok (.iaload, 1) := by decide +kernel
theorem dd_X0_fits_66 : decode cX0_fits 66 = .ok (.invokevirtual 38, 3) := by decide +kernel
theorem dd_X0_fits_69 : decode cX0_fits 69 = .ok (.aload_n 0, 1) := by decide +kernel
theorem dd_X0_fits_70 : decode cX0_fits 70 = .ok (.getfield 21, 3) := by decide +kernel
theorem dd_X0_fits_73 : decode cX0_fits 73 = .ok (.iload 5, 2) := by decide +kernel
theorem dd_X0_fits_75 : decode cX0_fits 75 = .ok (.iaload, 1) := by decide +kernel
theorem dd_X0_fits_76 : decode cX0_fits 76 = .ok (.iconst 1, 1) := by decide +kernel
theorem dd_X0_fits_77 : decode cX0_fits 77 = .ok (.if_icmp .ne 7, 3) := by decide +kernel
theorem dd_X0_fits_80 : decode cX0_fits 80 = .ok (.iconst 1, 1) := by decide +kernel
theorem dd_X0_fits_81 : decode cX0_fits 81 = .ok (.goto 4, 3) := by decide +kernel
theorem dd_X0_fits_84 : decode cX0_fits 84 = .ok (.iconst 0, 1) := by decide +kernel
theorem dd_X0_fits_85 : decode cX0_fits 85 = .ok (.if_icmp .eq 5, 3) := by decide +kernel
theorem dd_X0_fits_88 : decode cX0_fits 88 = .ok (.iconst 0, 1) := by decide +kernel
theorem dd_X0_fits_89 : decode cX0_fits 89 = .ok (.ireturn, 1) := by decide +kernel
theorem dd_X0_fits_90 : decode cX0_fits 90 = .ok (.iinc 5 1, 3) := by decide +kernel
theorem dd_X0_fits_93 : decode cX0_fits 93 = .ok (.goto (-90), 3) := by decide +kernel
theorem dd_X0_fits_96 : decode cX0_fits 96 = .ok (.iconst 1, 1) := by decide +kernel
theorem dd_X0_fits_97 : decode cX0_fits 97 = .ok (.ireturn, 1) := by decide +kernel
def tb_X0_fits (kd : Nat → Nat) (K : zK) : zTab := [(0, zt_const (zI 0) 1), (1, zt_istore 5 3), (3, zt_iload 5 5), (5, zt_aload 0 6), (6, zt_getI kd 5 4 9), (9, zt_icmp (fun x y => y ≤ x) (fun x y => ¬ y ≤ x) 96 12), (12, zt_iload 5 14), (14, zt_const (zI 6) 16), (16, zt_icmp (fun x y => y ≤ x) (fun x y => ¬ y ≤ x) 96 19), (19, zt_aload 0 20), (20, zt_getR kd 5 0 1 23), (23, zt_iload 5 25), (25, zt_ald kd 0 26), (26, zt_iload 3 27), (27, zt_icmp (fun x y => ¬ x = y) (fun x y => x = y) 46 30), (30, zt_aload 0 31), (31, zt_getR kd 5 0 2 34), (34, zt_iload 5 36), (36, zt_ald kd 0 37), (37, zt_iload 4 39), (39, zt_icmp (fun x y => ¬ x = y) (fun x y => x = y) 46 42), (42, zt_const (zI 1) 43), (43, zt_goto 47), (46, zt_const (zI 0) 47), (47, zt_istore 6 49), (49, zt_iload 6 51), (51, zt_if (fun x => x = 0) (fun x => ¬ x = 0) 90 54), (54, zt_aload 1 55), (55, zt_iload 2 56), (56, zt_iload 3 57), (57, zt_iload 4 59), (59, zt_aload 0 60), (60, zt_getR kd 5 0 3 63), (63, zt_iload 5 65), (65, zt_ald kd 0 66), (66, zt_call kd sp_X3_wouldBind 5 69), (69, zt_aload 0 70), (70, zt_getR kd 5 0 4 73), (73, zt_iload 5 75), (75, zt_ald kd 0 76), (76, zt_const (zI 1) 77), (77, zt_icmp (fun x y => ¬ x = y) (fun x y => x = y) 84 80), (80, zt_const (zI 1) 81), (81, zt_goto 85), (84, zt_const (zI 0) 85), (85, zt_icmp (fun x y => x = y) (fun x y => ¬ x = y) 90 88), (88, zt_const (zI 0) 89), (89, zt_zret K), (90, zt_iinc 5 1 93), (93, zt_goto 3), (96, zt_const (zI 1) 97), (97, zt_zret K)]
set_option maxRecDepth 20000 in
theorem tk_X0_fits (d : Nat) (h_X3_wouldBind : zMS 3 yX3_wouldBind cX3_wouldBind 6 (some .boolean) sp_X3_wouldBind) : zTrue RX0 cX0_fits 7 (some .boolean) (d + 4) (fun kd K => tb_X0_fits kd K) := by
  intro p l e R s m args below meth c D cy A ad bl Qm K C0 hr hlocks hQ
  obtain ⟨hx, hb, hml, hown, hts, hK, hD, hA0, hN, hE, ⟨hR1, hR2⟩, hc1, hc2⟩ := id C0
  unfold tb_X0_fits
  refine List.forall_mem_cons.mpr ⟨ok_iconst hx hb dd_X0_fits_0 (by decide), ?_⟩
  refine List.forall_mem_cons.mpr ⟨ok_istore hx hb dd_X0_fits_1, ?_⟩
  refine List.forall_mem_cons.mpr ⟨ok_iload hx hb dd_X0_fits_3, ?_⟩
  refine List.forall_mem_cons.mpr ⟨ok_aload_n hx hb rfl dd_X0_fits_5, ?_⟩
  refine List.forall_mem_cons.mpr ⟨ok_getI (j := 4) hx hb hts zi_X0 hown hK zc_X0 (by decide) rfl (fun t fl h => by cases h; rfl) (hts _ wd_186) dd_X0_fits_6, ?_⟩
  refine List.forall_mem_cons.mpr ⟨ok_icmp_ge hx hb dd_X0_fits_9 (by decide), ?_⟩
  refine List.forall_mem_cons.mpr ⟨ok_iload hx hb dd_X0_fits_12, ?_⟩
  refine List.forall_mem_cons.mpr ⟨ok_bipush hx hb dd_X0_fits_14 (by decide), ?_⟩
  refine List.forall_mem_cons.mpr ⟨ok_icmp_ge hx hb dd_X0_fits_16 (by decide), ?_⟩
  refine List.forall_mem_cons.mpr ⟨ok_aload_n hx hb rfl dd_X0_fits_19, ?_⟩
  refine List.forall_mem_cons.mpr ⟨ok_getR (j := 0) hx hb hts zi_X0 hown hK zc_X0 (by decide) rfl (fun t fl h => by cases h; rfl) (hts _ wd_182) dd_X0_fits_20, ?_⟩
  refine List.forall_mem_cons.mpr ⟨ok_iload hx hb dd_X0_fits_23, ?_⟩
  refine List.forall_mem_cons.mpr ⟨ok_ald (ty := 0) rfl hx hb hK (Or.inl ⟨rfl, rfl, dd_X0_fits_25⟩), ?_⟩
  refine List.forall_mem_cons.mpr ⟨ok_iload_n hx hb rfl dd_X0_fits_26, ?_⟩
  refine List.forall_mem_cons.mpr ⟨ok_icmp_ne hx hb dd_X0_fits_27 (by decide), ?_⟩
  refine List.forall_mem_cons.mpr ⟨ok_aload_n hx hb rfl dd_X0_fits_30, ?_⟩
  refine List.forall_mem_cons.mpr ⟨ok_getR (j := 1) hx hb hts zi_X0 hown hK zc_X0 (by decide) rfl (fun t fl h => by cases h; rfl) (hts _ wd_183) dd_X0_fits_31, ?_⟩
  refine List.forall_mem_cons.mpr ⟨ok_iload hx hb dd_X0_fits_34, ?_⟩
  refine List.forall_mem_cons.mpr ⟨ok_ald (ty := 0) rfl hx hb hK (Or.inl ⟨rfl, rfl, dd_X0_fits_36⟩), ?_⟩
  refine List.forall_mem_cons.mpr ⟨ok_iload hx hb dd_X0_fits_37, ?_⟩
  refine List.forall_mem_cons.mpr ⟨ok_icmp_ne hx hb dd_X0_fits_39 (by decide), ?_⟩
  refine List.forall_mem_cons.mpr ⟨ok_iconst hx hb dd_X0_fits_42 (by decide), ?_⟩
  refine List.forall_mem_cons.mpr ⟨ok_goto hx hb dd_X0_fits_43 (by decide), ?_⟩
  refine List.forall_mem_cons.mpr ⟨ok_iconst hx hb dd_X0_fits_46 (by decide), ?_⟩
  refine List.forall_mem_cons.mpr ⟨ok_istore hx hb dd_X0_fits_47, ?_⟩
  refine List.forall_mem_cons.mpr ⟨ok_iload hx hb dd_X0_fits_49, ?_⟩
  refine List.forall_mem_cons.mpr ⟨ok_if_eq hx hb dd_X0_fits_51 (by decide), ?_⟩
  refine List.forall_mem_cons.mpr ⟨ok_aload_n hx hb rfl dd_X0_fits_54, ?_⟩
  refine List.forall_mem_cons.mpr ⟨ok_iload_n hx hb rfl dd_X0_fits_55, ?_⟩
  refine List.forall_mem_cons.mpr ⟨ok_iload_n hx hb rfl dd_X0_fits_56, ?_⟩
  refine List.forall_mem_cons.mpr ⟨ok_iload hx hb dd_X0_fits_57, ?_⟩
  refine List.forall_mem_cons.mpr ⟨ok_aload_n hx hb rfl dd_X0_fits_59, ?_⟩
  refine List.forall_mem_cons.mpr ⟨ok_getR (j := 2) hx hb hts zi_X0 hown hK zc_X0 (by decide) rfl (fun t fl h => by cases h; rfl) (hts _ wd_184) dd_X0_fits_60, ?_⟩
  refine List.forall_mem_cons.mpr ⟨ok_iload hx hb dd_X0_fits_63, ?_⟩
  refine List.forall_mem_cons.mpr ⟨ok_ald (ty := 0) rfl hx hb hK (Or.inl ⟨rfl, rfl, dd_X0_fits_65⟩), ?_⟩
  refine List.forall_mem_cons.mpr ⟨ok_callVN (n := 4) zc_X3 rv_X3_wouldBind C0 (h_X3_wouldBind (d + 3) (by omega)) (by decide) wd_558 nd_720 wd_557 wd_26 wd_102 ⟨by decide +kernel, by decide +kernel, by decide +kernel⟩ dd_X0_fits_66, ?_⟩
  refine List.forall_mem_cons.mpr ⟨ok_aload_n hx hb rfl dd_X0_fits_69, ?_⟩
  refine List.forall_mem_cons.mpr ⟨ok_getR (j := 3) hx hb hts zi_X0 hown hK zc_X0 (by decide) rfl (fun t fl h => by cases h; rfl) (hts _ wd_185) dd_X0_fits_70, ?_⟩
  refine List.forall_mem_cons.mpr ⟨ok_iload hx hb dd_X0_fits_73, ?_⟩
  refine List.forall_mem_cons.mpr ⟨ok_ald (ty := 0) rfl hx hb hK (Or.inl ⟨rfl, rfl, dd_X0_fits_75⟩), ?_⟩
  refine List.forall_mem_cons.mpr ⟨ok_iconst hx hb dd_X0_fits_76 (by decide), ?_⟩
  refine List.forall_mem_cons.mpr ⟨ok_icmp_ne hx hb dd_X0_fits_77 (by decide), ?_⟩
  refine List.forall_mem_cons.mpr ⟨ok_iconst hx hb dd_X0_fits_80 (by decide), ?_⟩
  refine List.forall_mem_cons.mpr ⟨ok_goto hx hb dd_X0_fits_81 (by decide), ?_⟩
  refine List.forall_mem_cons.mpr ⟨ok_iconst hx hb dd_X0_fits_84 (by decide), ?_⟩
  refine List.forall_mem_cons.mpr ⟨ok_icmp_eq hx hb dd_X0_fits_85 (by decide), ?_⟩
  refine List.forall_mem_cons.mpr ⟨ok_iconst hx hb dd_X0_fits_88 (by decide), ?_⟩
  refine List.forall_mem_cons.mpr ⟨ok_zret hx hb hr hlocks hQ dd_X0_fits_89, ?_⟩
  refine List.forall_mem_cons.mpr ⟨ok_iinc hx hb dd_X0_fits_90 (by decide), ?_⟩
  refine List.forall_mem_cons.mpr ⟨ok_goto hx hb dd_X0_fits_93 (by decide), ?_⟩
  refine List.forall_mem_cons.mpr ⟨ok_iconst hx hb dd_X0_fits_96 (by decide), ?_⟩
  refine List.forall_mem_cons.mpr ⟨ok_zret hx hb hr hlocks hQ dd_X0_fits_97, ?_⟩
  exact fun _ h => absurd h List.not_mem_nil
set_option maxRecDepth 100000 in
theorem vc_X0_fits_0 {kd : Nat → Nat} {K : zK} {X : zX} (hX : ∀ (n pc : Nat) (ls : zLS) (st : List zV) (M : zM), zrun (tb_X0_fits kd K) [(3, [6])] n X pc ls st M → X pc ls st M) {t : Nat} {u : Nat} {k : Int32} {c : Int32} {i : Int32} {M : zM}  (h : X 3 [some (zR t 0), some (zR u 0), some (zI (k)), some (zI (c)), some (zI (i)), some (zI ((0 : Int32))), none] [] M) : X 0 [some (zR t 0), some (zR u 0), some (zI (k)), some (zI (c)), some (zI (i)), none, none] [] M := hX 4 0 _ [] M (show X 3 [some (zR t 0), some (zR u 0), some (zI (k)), some (zI (c)), some (zI (i)), some (zI ((0 : Int32))), none] [] M from h)
set_option maxRecDepth 100000 in
theorem vc_X0_fits_3 {kd : Nat → Nat} {K : zK} {X : zX} (hX : ∀ (n pc : Nat) (ls : zLS) (st : List zV) (M : zM), zrun (tb_X0_fits kd K) [(3, [6])] n X pc ls st M → X pc ls st M) {t : Nat} {u : Nat} {k : Int32} {c : Int32} {i : Int32} {n : Int32} {M : zM} (hk0 : kd t = 5) (hk1 : kd u = 3) (h : (((M.1 t 0 4) ≤ n) → K (some (zI ((1 : Int32)))) M) ∧ ((¬ (M.1 t 0 4) ≤ n) → (((6 : Int32) ≤ n) → K (some (zI ((1 : Int32)))) M) ∧ ((¬ (6 : Int32) ≤ n) → (zin (kd t) 1 0 n) ∧ ((¬ (M.1 t 1 (n).toNatClampNeg) = c) → X 3 [some (zR t 0), some (zR u 0), some (zI (k)), some (zI (c)), some (zI (i)), some (zI (n + 1)), none] [] M) ∧ (((M.1 t 1 (n).toNatClampNeg) = c) → (zin (kd t) 2 0 n) ∧ ((¬ (M.1 t 2 (n).toNatClampNeg) = i) → X 3 [some (zR t 0), some (zR u 0), some (zI (k)), some (zI (c)), some (zI (i)), some (zI (n + 1)), none] [] M) ∧ (((M.1 t 2 (n).toNatClampNeg) = i) → (zin (kd t) 3 0 n) ∧ ∃ a3 : Sk, (RpS (M.1 u) a3) ∧ ∃ l3 : Ly, (sk_at a3 c.toInt i.toInt = some l3) ∧ (0 ≤ (M.1 t 3 (n).toNatClampNeg).toInt ∧ (M.1 t 3 (n).toNatClampNeg).toInt < 1000000) ∧ ∀ v3 : Int32, (v3 = zp (bnd k.toInt l3 (sk_at a3 c.toInt (i.toInt + 1)) (M.1 t 3 (n).toNatClampNeg).toInt = true)) → (zin (kd t) 4 0 n) ∧ ((¬ (M.1 t 4 (n).toNatClampNeg) = (1 : Int32)) → ((v3 = (0 : Int32)) → X 3 [some (zR t 0), some (zR u 0), some (zI (k)), some (zI (c)), some (zI (i)), some (zI (n + 1)), none] [] M) ∧ ((¬ v3 = (0 : Int32)) → K (some (zI ((0 : Int32)))) M)) ∧ (((M.1 t 4 (n).toNatClampNeg) = (1 : Int32)) → ((v3 = (1 : Int32)) → X 3 [some (zR t 0), some (zR u 0), some (zI (k)), some (zI (c)), some (zI (i)), some (zI (n + 1)), none] [] M) ∧ ((¬ v3 = (1 : Int32)) → K (some (zI ((0 : Int32)))) M))))))) : X 3 [some (zR t 0), some (zR u 0), some (zI (k)), some (zI (c)), some (zI (i)), some (zI (n)), none] [] M := hX 46 3 _ [] M (show (kd t = 5) ∧ (((M.1 t 0 4) ≤ n) → ((1 : Int32) = 0 ∨ (1 : Int32) = 1) ∧ K (some (zI ((1 : Int32)))) M) ∧ ((¬ (M.1 t 0 4) ≤ n) → (((6 : Int32) ≤ n) → ((1 : Int32) = 0 ∨ (1 : Int32) = 1) ∧ K (some (zI ((1 : Int32)))) M) ∧ ((¬ (6 : Int32) ≤ n) → (kd t = 5) ∧ (zin (kd t) 1 0 n) ∧ ((¬ (M.1 t 1 (n).toNatClampNeg) = c) → (((0 : Int32) = 0) → X 3 [some (zR t 0), some (zR u 0), some (zI (k)), some (zI (c)), some (zI (i)), some (zI (n + 1)), none] [] M) ∧ ((¬ (0 : Int32) = 0) → (kd t = 5) ∧ (zin (kd t) 3 0 n) ∧ (kd u = 3) ∧ ∃ a1 : Sk, (RpS (M.1 u) a1) ∧ ∃ l1 : Ly, (sk_at a1 c.toInt i.toInt = some l1) ∧ (0 ≤ (M.1 t 3 (n).toNatClampNeg).toInt ∧ (M.1 t 3 (n).toNatClampNeg).toInt < 1000000) ∧ ∀ v1 : Int32, (v1 = zp (bnd k.toInt l1 (sk_at a1 c.toInt (i.toInt + 1)) (M.1 t 3 (n).toNatClampNeg).toInt = true)) → (kd t = 5) ∧ (zin (kd t) 4 0 n) ∧ ((¬ (M.1 t 4 (n).toNatClampNeg) = (1 : Int32)) → ((v1 = (0 : Int32)) → X 3 [some (zR t 0), some (zR u 0), some (zI (k)), some (zI (c)), some (zI (i)), some (zI (n + 1)), none] [] M) ∧ ((¬ v1 = (0 : Int32)) → ((0 : Int32) = 0 ∨ (0 : Int32) = 1) ∧ K (some (zI ((0 : Int32)))) M)) ∧ (((M.1 t 4 (n).toNatClampNeg) = (1 : Int32)) → ((v1 = (1 : Int32)) → X 3 [some (zR t 0), some (zR u 0), some (zI (k)), some (zI (c)), some (zI (i)), some (zI (n + 1)), none] [] M) ∧ ((¬ v1 = (1 : Int32)) → ((0 : Int32) = 0 ∨ (0 : Int32) = 1) ∧ K (some (zI ((0 : Int32)))) M)))) ∧ (((M.1 t 1 (n).toNatClampNeg) = c) → (kd t = 5) ∧ (zin (kd t) 2 0 n) ∧ ((¬ (M.1 t 2 (n).toNatClampNeg) = i) → (((0 : Int32) = 0) → X 3 [some (zR t 0), some (zR u 0), some (zI (k)), some (zI (c)), some (zI (i)), some (zI (n + 1)), none] [] M) ∧ ((¬ (0 : Int32) = 0) → (kd t = 5) ∧ (zin (kd t) 3 0 n) ∧ (kd u = 3) ∧ ∃ a2 : Sk, (RpS (M.1 u) a2) ∧ ∃ l2 : Ly, (sk_at a2 c.toInt i.toInt = some l2) ∧ (0 ≤ (M.1 t 3 (n).toNatClampNeg).toInt ∧ (M.1 t 3 (n).toNatClampNeg).toInt < 1000000) ∧ ∀ v2 : Int32, (v2 = zp (bnd k.toInt l2 (sk_at a2 c.toInt (i.toInt + 1)) (M.1 t 3 (n).toNatClampNeg).toInt = true)) → (kd t = 5) ∧ (zin (kd t) 4 0 n) ∧ ((¬ (M.1 t 4 (n).toNatClampNeg) = (1 : Int32)) → ((v2 = (0 : Int32)) → X 3 [some (zR t 0), some (zR u 0), some (zI (k)), some (zI (c)), some (zI (i)), some (zI (n + 1)), none] [] M) ∧ ((¬ v2 = (0 : Int32)) → ((0 : Int32) = 0 ∨ (0 : Int32) = 1) ∧ K (some (zI ((0 : Int32)))) M)) ∧ (((M.1 t 4 (n).toNatClampNeg) = (1 : Int32)) → ((v2 = (1 : Int32)) → X 3 [some (zR t 0), some (zR u 0), some (zI (k)), some (zI (c)), some (zI (i)), some (zI (n + 1)), none] [] M) ∧ ((¬ v2 = (1 : Int32)) → ((0 : Int32) = 0 ∨ (0 : Int32) = 1) ∧ K (some (zI ((0 : Int32)))) M)))) ∧ (((M.1 t 2 (n).toNatClampNeg) = i) → (((1 : Int32) = 0) → X 3 [some (zR t 0), some (zR u 0), some (zI (k)), some (zI (c)), some (zI (i)), some (zI (n + 1)), none] [] M) ∧ ((¬ (1 : Int32) = 0) → (kd t = 5) ∧ (zin (kd t) 3 0 n) ∧ (kd u = 3) ∧ ∃ a3 : Sk, (RpS (M.1 u) a3) ∧ ∃ l3 : Ly, (sk_at a3 c.toInt i.toInt = some l3) ∧ (0 ≤ (M.1 t 3 (n).toNatClampNeg).toInt ∧ (M.1 t 3 (n).toNatClampNeg).toInt < 1000000) ∧ ∀ v3 : Int32, (v3 = zp (bnd k.toInt l3 (sk_at a3 c.toInt (i.toInt + 1)) (M.1 t 3 (n).toNatClampNeg).toInt = true)) → (kd t = 5) ∧ (zin (kd t) 4 0 n) ∧ ((¬ (M.1 t 4 (n).toNatClampNeg) = (1 : Int32)) → ((v3 = (0 : Int32)) → X 3 [some (zR t 0), some (zR u 0), some (zI (k)), some (zI (c)), some (zI (i)), some (zI (n + 1)), none] [] M) ∧ ((¬ v3 = (0 : Int32)) → ((0 : Int32) = 0 ∨ (0 : Int32) = 1) ∧ K (some (zI ((0 : Int32)))) M)) ∧ (((M.1 t 4 (n).toNatClampNeg) = (1 : Int32)) → ((v3 = (1 : Int32)) → X 3 [some (zR t 0), some (zR u 0), some (zI (k)), some (zI (c)), some (zI (i)), some (zI (n + 1)), none] [] M) ∧ ((¬ v3 = (1 : Int32)) → ((0 : Int32) = 0 ∨ (0 : Int32) = 1) ∧ K (some (zI ((0 : Int32)))) M))))))) from ⟨hk0, ⟨fun q => have h := h.1 q; ⟨(Or.inr rfl), h⟩, fun q => have h := h.2 q; ⟨fun q => have h := h.1 q; ⟨(Or.inr rfl), h⟩, fun q => have h := h.2 q; ⟨hk0, ⟨h.1, have h := h.2; ⟨fun q => have h := h.1 q; ⟨fun _ => h, fun q => absurd q (by decide)⟩, fun q => have h := h.2 q; ⟨hk0, ⟨h.1, have h := h.2; ⟨fun q => have h := h.1 q; ⟨fun _ => h, fun q => absurd q (by decide)⟩, fun q => have h := h.2 q; ⟨fun q => absurd q (by decide), fun _ => ⟨hk0, ⟨h.1, have h := h.2; ⟨hk1, h.elim (fun a3 h => ⟨a3, ⟨h.1, have h := h.2; h.elim (fun l3 h => ⟨l3, ⟨h.1, have h := h.2; ⟨h.1, have h := h.2; fun v3 => have h := h v3; fun q => have h := h q; ⟨hk0, ⟨h.1, have h := h.2; ⟨fun q => have h := h.1 q; ⟨fun q => have h := h.1 q; h, fun q => have h := h.2 q; ⟨(Or.inl rfl), h⟩⟩, fun q => have h := h.2 q; ⟨fun q => have h := h.1 q; h, fun q => have h := h.2 q; ⟨(Or.inl rfl), h⟩⟩⟩⟩⟩⟩⟩⟩)⟩⟩)⟩⟩⟩⟩⟩⟩⟩⟩⟩⟩⟩⟩⟩)
def sp_X0_fitting : zSpec := fun kd as M K => match as with
  | [.inr (.inr (.inl (t, 0))), .inr (.inr (.inl (u, 0))), .inl c, .inl i] => (kd t = 5) ∧ (kd u = 3) ∧ ∃ L : List Se, (RpL (M.1 t) L) ∧ ∃ a : Sk, (RpS (M.1 u) a) ∧ ∃ l : Ly, (sk_at a c.toInt i.toInt = some l) ∧ ∀ v : Int32, (v.toInt = seFit L l (sk_at a c.toInt (i.toInt + 1)) c.toInt i.toInt) → K (some (.inl v)) M
  | _ => False
theorem rv_X0_fitting : zrv sp_X0_fitting 5 3 := by
  intro kd as M K h
  unfold sp_X0_fitting at h
  split at h
  · exact ⟨_, _, rfl, h.1⟩
  · exact h.elim
theorem dd_X0_fitting_0 : decode cX0_fitting 0 = .ok (.iconst 0, 1) := by decide +kernel
theorem dd_X0_fitting_1 : decode cX0_fitting 1 = .ok (.istore 4, 2) := by decide +kernel
theorem dd_X0_fitting_3 : decode cX0_fitting 3 = .ok (.iconst 0, 1) := by decide +kernel
theorem dd_X0_fitting_4 : decode cX0_fitting 4 = .ok (.istore 5, 2) := by decide +kernel
theorem dd_X0_fitting_6 : decode cX0_fitting 6 = .ok (.iload 5, 2) := by decide +kernel
theorem dd_X0_fitting_8 : decode cX0_fitting 8 = .ok (.bipush 6, 2) := by decide +kernel
theorem dd_X0_fitting_10 : decode cX0_fitting 10 = .ok (.if_icmp .ge 30, 3) := by decide +kernel
theorem dd_X0_fitting_13 : decode cX0_fitting 13 = .ok (.aload_n 0, 1) := by decide +kernel
theorem dd_X0_fitting_14 : decode cX0_fitting 14 = .ok (.aload_n 1, 1) := by decide +kernel
theorem dd_X0_fitting_15 : decode cX0_fitting 15 = .ok (.iload 5, 2) := by decide +kernel
theorem dd_X0_fitting_17 : decode cX0_fitting 17 = .ok (.iload_n 2, 1) := by decide +kernel
theorem dd_X0_fitting_18 : decode cX0_fitting 18 = .ok (.iload_n 3, 1) := by decide +kernel
theorem dd_X0_fitting_19 : decode cX0_fitting 19 = .ok (.invokevirtual 34, 3) := by decide +kernel
theorem dd_X0_fitting_22 : decode cX0_fitting 22 = .ok (.ifCond .eq 12, 3) := by decide +kernel
theorem dd_X0_fitting_25 : decode cX0_fitting 25 = .ok (.iload 4, 2) := by decide +kernel
theorem dd_X0_fitting_27 : decode cX0_fitting 27 = .ok (.iconst 1, 1) := by decide +kernel
theorem dd_X0_fitting_28 : decode cX0_fitting 28 = .ok (.iload 5, 2) := by decide +kernel
theorem dd_X0_fitting_30 : decode cX0_fitting 30 = .ok (.ishl, 1) := by decide +kernel
theorem dd_X0_fitting_31 : decode cX0_fitting 31 = .ok (.ior, 1) := by decide +kernel
theorem dd_X0_fitting_32 : decode cX0_fitting 32 = .ok (.istore 4, 2) := by decide +kernel
theorem dd_X0_fitting_34 : decode cX0_fitting 34 = .ok (.iinc 5 1, 3) := by decide +kernel
theorem dd_X0_fitting_37 : decode cX0_fitting 37 = .ok (.goto (-31), 3) := by decide +kernel
theorem dd_X0_fitting_40 : decode cX0_fitting 40 = .ok (.iload 4, 2) := by decide +kernel
theorem dd_X0_fitting_42 : decode cX0_fitting 42 = .ok (.ireturn, 1) := by decide +kernel
def tb_X0_fitting (kd : Nat → Nat) (K : zK) : zTab := [(0, zt_const (zI 0) 1), (1, zt_istore 4 3), (3, zt_const (zI 0) 4), (4, zt_istore 5 6), (6, zt_iload 5 8), (8, zt_const (zI 6) 10), (10, zt_icmp (fun x y => y ≤ x) (fun x y => ¬ y ≤ x) 40 13), (13, zt_aload 0 14), (14, zt_aload 1 15), (15, zt_iload 5 17), (17, zt_iload 2 18), (18, zt_iload 3 19), (19, zt_call kd sp_X0_fits 5 22), (22, zt_if (fun x => x = 0) (fun x => ¬ x = 0) 34 25), (25, zt_iload 4 27), (27, zt_const (zI 1) 28), (28, zt_iload 5 30), (30, zt_bin (fun x y => x <<< (y &&& 31)) 31), (31, zt_bin (fun x y => x ||| y) 32), (32, zt_istore 4 34), (34, zt_iinc 5 1 37), (37, zt_goto 6), (40, zt_iload 4 42), (42, zt_iret K)]
set_option maxRecDepth 20000 in
theorem tk_X0_fitting (d : Nat) (h_X0_fits : zMS 4 yX0_fits cX0_fits 7 (some .boolean) sp_X0_fits) : zTrue RX0 cX0_fitting 6 (some .int) (d + 5) (fun kd K => tb_X0_fitting kd K) := by
  intro p l e R s m args below meth c D cy A ad bl Qm K C0 hr hlocks hQ
  obtain ⟨hx, hb, hml, hown, hts, hK, hD, hA0, hN, hE, ⟨hR1, hR2⟩, hc1, hc2⟩ := id C0
  unfold tb_X0_fitting
  refine List.forall_mem_cons.mpr ⟨ok_iconst hx hb dd_X0_fitting_0 (by decide), ?_⟩
  refine List.forall_mem_cons.mpr ⟨ok_istore hx hb dd_X0_fitting_1, ?_⟩
  refine List.forall_mem_cons.mpr ⟨ok_iconst hx hb dd_X0_fitting_3 (by decide), ?_⟩
  refine List.forall_mem_cons.mpr ⟨ok_istore hx hb dd_X0_fitting_4, ?_⟩
  refine List.forall_mem_cons.mpr ⟨ok_iload hx hb dd_X0_fitting_6, ?_⟩
  refine List.forall_mem_cons.mpr ⟨ok_bipush hx hb dd_X0_fitting_8 (by decide), ?_⟩
  refine List.forall_mem_cons.mpr ⟨ok_icmp_ge hx hb dd_X0_fitting_10 (by decide), ?_⟩
  refine List.forall_mem_cons.mpr ⟨ok_aload_n hx hb rfl dd_X0_fitting_13, ?_⟩
  refine List.forall_mem_cons.mpr ⟨ok_aload_n hx hb rfl dd_X0_fitting_14, ?_⟩
  refine List.forall_mem_cons.mpr ⟨ok_iload hx hb dd_X0_fitting_15, ?_⟩
  refine List.forall_mem_cons.mpr ⟨ok_iload_n hx hb rfl dd_X0_fitting_17, ?_⟩
  refine List.forall_mem_cons.mpr ⟨ok_iload_n hx hb rfl dd_X0_fitting_18, ?_⟩
  refine List.forall_mem_cons.mpr ⟨ok_callV (n := 4) zc_X0 rv_X0_fits C0 (h_X0_fits (d + 4) (by omega)) (by decide) wd_719 wd_716 wd_718 wd_51 wd_104 ⟨rfl, by decide +kernel, by decide +kernel, by decide +kernel⟩ dd_X0_fitting_19, ?_⟩
  refine List.forall_mem_cons.mpr ⟨ok_if_eq hx hb dd_X0_fitting_22 (by decide), ?_⟩
  refine List.forall_mem_cons.mpr ⟨ok_iload hx hb dd_X0_fitting_25, ?_⟩
  refine List.forall_mem_cons.mpr ⟨ok_iconst hx hb dd_X0_fitting_27 (by decide), ?_⟩
  refine List.forall_mem_cons.mpr ⟨ok_iload hx hb dd_X0_fitting_28, ?_⟩
  refine List.forall_mem_cons.mpr ⟨ok_ishl hx hb dd_X0_fitting_30, ?_⟩
  refine List.forall_mem_cons.mpr ⟨ok_ior hx hb dd_X0_fitting_31, ?_⟩
  refine List.forall_mem_cons.mpr ⟨ok_istore hx hb dd_X0_fitting_32, ?_⟩
  refine List.forall_mem_cons.mpr ⟨ok_iinc hx hb dd_X0_fitting_34 (by decide), ?_⟩
  refine List.forall_mem_cons.mpr ⟨ok_goto hx hb dd_X0_fitting_37 (by decide), ?_⟩
  refine List.forall_mem_cons.mpr ⟨ok_iload hx hb dd_X0_fitting_40, ?_⟩
  refine List.forall_mem_cons.mpr ⟨ok_iret hx hb hr hlocks hQ dd_X0_fitting_42, ?_⟩
  exact fun _ h => absurd h List.not_mem_nil
set_option maxRecDepth 100000 in
theorem vc_X0_fitting_0 {kd : Nat → Nat} {K : zK} {X : zX} (hX : ∀ (n pc : Nat) (ls : zLS) (st : List zV) (M : zM), zrun (tb_X0_fitting kd K) [(6, [])] n X pc ls st M → X pc ls st M) {t : Nat} {u : Nat} {c : Int32} {i : Int32} {M : zM}  (h : X 6 [some (zR t 0), some (zR u 0), some (zI (c)), some (zI (i)), some (zI ((0 : Int32))), some (zI ((0 : Int32)))] [] M) : X 0 [some (zR t 0), some (zR u 0), some (zI (c)), some (zI (i)), none, none] [] M := hX 6 0 _ [] M (show X 6 [some (zR t 0), some (zR u 0), some (zI (c)), some (zI (i)), some (zI ((0 : Int32))), some (zI ((0 : Int32)))] [] M from h)
set_option maxRecDepth 100000 in
theorem vc_X0_fitting_6 {kd : Nat → Nat} {K : zK} {X : zX} (hX : ∀ (n pc : Nat) (ls : zLS) (st : List zV) (M : zM), zrun (tb_X0_fitting kd K) [(6, [])] n X pc ls st M → X pc ls st M) {t : Nat} {u : Nat} {c : Int32} {i : Int32} {w : Int32} {k : Int32} {M : zM} (hk0 : kd u = 3) (hk1 : kd t = 5) (h : (((6 : Int32) ≤ k) → K (some (zI (w))) M) ∧ ((¬ (6 : Int32) ≤ k) → ∃ L1 : List Se, (RpL (M.1 t) L1) ∧ ∃ a1 : Sk, (RpS (M.1 u) a1) ∧ ∃ l1 : Ly, (sk_at a1 c.toInt i.toInt = some l1) ∧ ∀ v1 : Int32, (v1 = zp (L1.all (seOk k.toInt l1 (sk_at a1 c.toInt (i.toInt + 1)) c.toInt i.toInt) = true)) → ((v1 = 0) → X 6 [some (zR t 0), some (zR u 0), some (zI (c)), some (zI (i)), some (zI (w)), some (zI (k + 1))] [] M) ∧ ((¬ v1 = 0) → X 6 [some (zR t 0), some (zR u 0), some (zI (c)), some (zI (i)), some (zI (w ||| ((1 : Int32) <<< (k &&& 31)))), some (zI (k + 1))] [] M))) : X 6 [some (zR t 0), some (zR u 0), some (zI (c)), some (zI (i)), some (zI (w)), some (zI (k))] [] M := hX 20 6 _ [] M (show (((6 : Int32) ≤ k) → K (some (zI (w))) M) ∧ ((¬ (6 : Int32) ≤ k) → (kd t = 5) ∧ (kd u = 3) ∧ ∃ L1 : List Se, (RpL (M.1 t) L1) ∧ ∃ a1 : Sk, (RpS (M.1 u) a1) ∧ ∃ l1 : Ly, (sk_at a1 c.toInt i.toInt = some l1) ∧ ∀ v1 : Int32, (v1 = zp (L1.all (seOk k.toInt l1 (sk_at a1 c.toInt (i.toInt + 1)) c.toInt i.toInt) = true)) → ((v1 = 0) → X 6 [some (zR t 0), some (zR u 0), some (zI (c)), some (zI (i)), some (zI (w)), some (zI (k + 1))] [] M) ∧ ((¬ v1 = 0) → X 6 [some (zR t 0), some (zR u 0), some (zI (c)), some (zI (i)), some (zI (w ||| ((1 : Int32) <<< (k &&& 31)))), some (zI (k + 1))] [] M)) from ⟨fun q => have h := h.1 q; h, fun q => have h := h.2 q; ⟨hk1, ⟨hk0, h.elim (fun L1 h => ⟨L1, ⟨h.1, have h := h.2; h.elim (fun a1 h => ⟨a1, ⟨h.1, have h := h.2; h.elim (fun l1 h => ⟨l1, ⟨h.1, have h := h.2; fun v1 => have h := h v1; fun q => have h := h q; ⟨fun q => have h := h.1 q; h, fun q => have h := h.2 q; h⟩⟩⟩)⟩⟩)⟩⟩)⟩⟩⟩)
def sp_X0_mixed : zSpec := fun kd as M K => match as with
  | [.inr (.inr (.inl (t, 0))), .inr (.inl p)] => (kd t = 5) ∧ ∃ L : List Se, (RpL (M.1 t) L) ∧ ∀ v : Int64, (v = L.foldl mxS p) → K (some (.inr (.inl v))) M
  | _ => False
theorem rv_X0_mixed : zrv sp_X0_mixed 5 1 := by
  intro kd as M K h
  unfold sp_X0_mixed at h
  split at h
  · exact ⟨_, _, rfl, h.1⟩
  · exact h.elim
theorem dd_X0_mixed_0 : decode cX0_mixed 0 = .ok (.lload_n 1, 1) := by decide +kernel
theorem dd_X0_mixed_1 : decode cX0_mixed 1 = .ok (.lstore_n 3, 1) := by decide +kernel
theorem dd_X0_mixed_2 : decode cX0_mixed 2 = .ok (.iconst 0, 1) := by decide +kernel
theorem dd_X0_mixed_3 : decode cX0_mixed 3 = .ok (.istore 5, 2) := by decide +kernel
theorem dd_X0_mixed_5 : decode cX0_mixed 5 = .ok (.iload 5, 2) := by decide +kernel
theorem dd_X0_mixed_7 : decode cX0_mixed 7 = .ok (.aload_n 0, 1) := by decide +kernel
theorem dd_X0_mixed_8 : decode cX0_mixed 8 = .ok (.getfield 24, 3) := by decide +kernel
theorem dd_X0_mixed_11 : decode cX0_mixed 11 = .ok (.if_icmp .ge 62, 3) := by decide +kernel
theorem dd_X0_mixed_14 : decode cX0_mixed 14 = .ok (.iload 5, 2) := by decide +kernel
theorem dd_X0_mixed_16 : decode cX0_mixed 16 = .ok (.bipush 6, 2) := by decide +kernel
theorem dd_X0_mixed_18 : decode cX0_mixed 18 = .ok (.if_icmp .ge 55, 3) := by decide +kernel
theorem dd_X0_mixed_21 : decode cX0_mixed 21 = .ok (.lload_n 3, 1) := by decide +kernel
theorem dd_X0_mixed_22 : decode cX0_mixed 22 = .ok (.aload_n 0, 1) := by decide +kernel
theorem dd_X0_mixed_23 : decode cX0_mixed 23 = .ok (.getfield 9, 3) := by decide +kernel
theorem dd_X0_mixed_26 : decode cX0_mixed 26 = .ok (.iload 5, 2) := by decide +kernel
theorem dd_X0_mixed_28 : decode cX0_mixed 28 = .ok (.iaload, 1) := by decide +kernel
theorem dd_X0_mixed_29 : decode cX0_mixed 29 = .ok (.i2l, 1) := by decide +kernel
theorem dd_X0_mixed_30 : decode cX0_mixed 30 = .ok (.invokestatic 44, 3) := by decide +kernel
theorem dd_X0_mixed_33 : decode cX0_mixed 33 = .ok (.aload_n 0, 1) := by decide +kernel
theorem dd_X0_mixed_34 : decode cX0_mixed 34 = .ok (.getfield 15, 3) := by decide +kernel
theorem dd_X0_mixed_37 : decode cX0_mixed 37 = .ok (.iload 5, 2) := by decide +kernel
theorem dd_X0_mixed_39 : decode cX0_mixed 39 = .ok (.iaload, 1) := by decide +kernel
theorem dd_X0_mixed_40 : decode cX0_mixed 40 = .ok (.i2l, 1) := by decide +kernel
theorem dd_X0_mixed_41 : decode cX0_mixed 41 = .ok (.invokestatic 44, 3) := by decide +kernel
theorem dd_X0_mixed_44 : decode cX0_mixed 44 = .ok (.aload_n 0, 1) := by decide +kernel
theorem dd_X0_mixed_45 : decode cX0_mixed 45 = .ok (.getfield 18, 3) := by decide +kernel
theorem dd_X0_mixed_48 : decode cX0_mixed 48 = .ok (.iload 5, 2) := by decide +kernel
theorem dd_X0_mixed_50 : decode cX0_mixed 50 = .ok (.iaload, 1) := by decide +kernel
theorem dd_X0_mixed_51 : decode cX0_mixed 51 = .ok (.i2l, 1) := by decide +kernel
theorem dd_X0_mixed_52 : decode cX0_mixed 52 = .ok (.invokestatic 44, 3) := by decide +kernel
theorem dd_X0_mixed_55 : decode cX0_mixed 55 = .ok (.aload_n 0, 1) := by decide +kernel
theorem dd_X0_mixed_56 : decode cX0_mixed 56 = .ok (.getfield 21, 3) := by decide +kernel
theorem dd_X0_mixed_59 : decode cX0_mixed 59 = .ok (.iload 5, 2) := by decide +kernel
theorem dd_X0_mixed_61 : decode cX0_mixed 61 = .ok (.iaload, 1) := by decide +kernel
theorem dd_X0_mixed_62 : decode cX0_mixed 62 = .ok (.i2l, 1) := by decide +kernel
theorem dd_X0_mixed_63 : decode cX0_mixed 63 = .ok (.invokestatic 44, 3) := by decide +kernel
theorem dd_X0_mixed_66 : decode cX0_mixed 66 = .ok (.lstore_n 3, 1) := by decide +kernel
theorem dd_X0_mixed_67 : decode cX0_mixed 67 = .ok (.iinc 5 1, 3) := by decide +kernel
theorem dd_X0_mixed_70 : decode cX0_mixed 70 = .ok (.goto (-65), 3) := by decide +kernel
theorem dd_X0_mixed_73 : decode cX0_mixed 73 = .ok (.lload_n 3, 1) := by decide +kernel
theorem dd_X0_mixed_74 : decode cX0_mixed 74 = .ok (.lreturn, 1) := by decide +kernel
def tb_X0_mixed (kd : Nat → Nat) (K : zK) : zTab := [(0, zt_lload 1 1), (1, zt_lstore 3 2), (2, zt_const (zI 0) 3), (3, zt_istore 5 5), (5, zt_iload 5 7), (7, zt_aload 0 8), (8, zt_getI kd 5 4 11), (11, zt_icmp (fun x y => y ≤ x) (fun x y => ¬ y ≤ x) 73 14), (14, zt_iload 5 16), (16, zt_const (zI 6) 18), (18, zt_icmp (fun x y => y ≤ x) (fun x y => ¬ y ≤ x) 73 21), (21, zt_lload 3 22), (22, zt_aload 0 23), (23, zt_getR kd 5 0 1 26), (26, zt_iload 5 28), (28, zt_ald kd 0 29), (29, zt_un (fun x => zL x.toInt64) 30), (30, zt_call kd sp_X7_mix 2 33), (33, zt_aload 0 34), (34, zt_getR kd 5 0 2 37), (37, zt_iload 5 39), (39, zt_ald kd 0 40), (40, zt_un (fun x => zL x.toInt64) 41), (41, zt_call kd sp_X7_mix 2 44), (44, zt_aload 0 45), (45, zt_getR kd 5 0 3 48), (48, zt_iload 5 50), (50, zt_ald kd 0 51), (51, zt_un (fun x => zL x.toInt64) 52), (52, zt_call kd sp_X7_mix 2 55), (55, zt_aload 0 56), (56, zt_getR kd 5 0 4 59), (59, zt_iload 5 61), (61, zt_ald kd 0 62), (62, zt_un (fun x => zL x.toInt64) 63), (63, zt_call kd sp_X7_mix 2 66), (66, zt_lstore 3 67), (67, zt_iinc 5 1 70), (70, zt_goto 5), (73, zt_lload 3 74), (74, zt_lret K)]
set_option maxRecDepth 20000 in
theorem tk_X0_mixed (d : Nat) (h_X7_mix : zMS 1 yX7_mix cX7_mix 4 (some .long) sp_X7_mix) : zTrue RX0 cX0_mixed 6 (some .long) (d + 2) (fun kd K => tb_X0_mixed kd K) := by
  intro p l e R s m args below meth c D cy A ad bl Qm K C0 hr hlocks hQ
  obtain ⟨hx, hb, hml, hown, hts, hK, hD, hA0, hN, hE, ⟨hR1, hR2⟩, hc1, hc2⟩ := id C0
  unfold tb_X0_mixed
  refine List.forall_mem_cons.mpr ⟨ok_lload_n hx hb rfl dd_X0_mixed_0, ?_⟩
  refine List.forall_mem_cons.mpr ⟨ok_lstore_n hx hb rfl dd_X0_mixed_1, ?_⟩
  refine List.forall_mem_cons.mpr ⟨ok_iconst hx hb dd_X0_mixed_2 (by decide), ?_⟩
  refine List.forall_mem_cons.mpr ⟨ok_istore hx hb dd_X0_mixed_3, ?_⟩
  refine List.forall_mem_cons.mpr ⟨ok_iload hx hb dd_X0_mixed_5, ?_⟩
  refine List.forall_mem_cons.mpr ⟨ok_aload_n hx hb rfl dd_X0_mixed_7, ?_⟩
  refine List.forall_mem_cons.mpr ⟨ok_getI (j := 4) hx hb hts zi_X0 hown hK zc_X0 (by decide) rfl (fun t fl h => by cases h; rfl) (hts _ wd_186) dd_X0_mixed_8, ?_⟩
  refine List.forall_mem_cons.mpr ⟨ok_icmp_ge hx hb dd_X0_mixed_11 (by decide), ?_⟩
  refine List.forall_mem_cons.mpr ⟨ok_iload hx hb dd_X0_mixed_14, ?_⟩
  refine List.forall_mem_cons.mpr ⟨ok_bipush hx hb dd_X0_mixed_16 (by decide), ?_⟩
  refine List.forall_mem_cons.mpr ⟨ok_icmp_ge hx hb dd_X0_mixed_18 (by decide), ?_⟩
  refine List.forall_mem_cons.mpr ⟨ok_lload_n hx hb rfl dd_X0_mixed_21, ?_⟩
  refine List.forall_mem_cons.mpr ⟨ok_aload_n hx hb rfl dd_X0_mixed_22, ?_⟩
  refine List.forall_mem_cons.mpr ⟨ok_getR (j := 0) hx hb hts zi_X0 hown hK zc_X0 (by decide) rfl (fun t fl h => by cases h; rfl) (hts _ wd_182) dd_X0_mixed_23, ?_⟩
  refine List.forall_mem_cons.mpr ⟨ok_iload hx hb dd_X0_mixed_26, ?_⟩
  refine List.forall_mem_cons.mpr ⟨ok_ald (ty := 0) rfl hx hb hK (Or.inl ⟨rfl, rfl, dd_X0_mixed_28⟩), ?_⟩
  refine List.forall_mem_cons.mpr ⟨ok_i2l hx hb dd_X0_mixed_29, ?_⟩
  refine List.forall_mem_cons.mpr ⟨ok_callSN (n := 2) C0 (h_X7_mix (d + 1) (by omega)) (by decide) wd_818 nd_830 wd_817 wd_100 ⟨by decide +kernel, by decide +kernel, by decide +kernel⟩ dd_X0_mixed_30, ?_⟩
  refine List.forall_mem_cons.mpr ⟨ok_aload_n hx hb rfl dd_X0_mixed_33, ?_⟩
  refine List.forall_mem_cons.mpr ⟨ok_getR (j := 1) hx hb hts zi_X0 hown hK zc_X0 (by decide) rfl (fun t fl h => by cases h; rfl) (hts _ wd_183) dd_X0_mixed_34, ?_⟩
  refine List.forall_mem_cons.mpr ⟨ok_iload hx hb dd_X0_mixed_37, ?_⟩
  refine List.forall_mem_cons.mpr ⟨ok_ald (ty := 0) rfl hx hb hK (Or.inl ⟨rfl, rfl, dd_X0_mixed_39⟩), ?_⟩
  refine List.forall_mem_cons.mpr ⟨ok_i2l hx hb dd_X0_mixed_40, ?_⟩
  refine List.forall_mem_cons.mpr ⟨ok_callSN (n := 2) C0 (h_X7_mix (d + 1) (by omega)) (by decide) wd_818 nd_830 wd_817 wd_100 ⟨by decide +kernel, by decide +kernel, by decide +kernel⟩ dd_X0_mixed_41, ?_⟩
  refine List.forall_mem_cons.mpr ⟨ok_aload_n hx hb rfl dd_X0_mixed_44, ?_⟩
  refine List.forall_mem_cons.mpr ⟨ok_getR (j := 2) hx hb hts zi_X0 hown hK zc_X0 (by decide) rfl (fun t fl h => by cases h; rfl) (hts _ wd_184) dd_X0_mixed_45, ?_⟩
  refine List.forall_mem_cons.mpr ⟨ok_iload hx hb dd_X0_mixed_48, ?_⟩
  refine List.forall_mem_cons.mpr ⟨ok_ald (ty := 0) rfl hx hb hK (Or.inl ⟨rfl, rfl, dd_X0_mixed_50⟩), ?_⟩
  refine List.forall_mem_cons.mpr ⟨ok_i2l hx hb dd_X0_mixed_51, ?_⟩
  refine List.forall_mem_cons.mpr ⟨ok_callSN (n := 2) C0 (h_X7_mix (d + 1) (by omega)) (by decide) wd_818 nd_830 wd_817 wd_100 ⟨by decide +kernel, by decide +kernel, by decide +kernel⟩ dd_X0_mixed_52, ?_⟩
  refine List.forall_mem_cons.mpr ⟨ok_aload_n hx hb rfl dd_X0_mixed_55, ?_⟩
  refine List.forall_mem_cons.mpr ⟨ok_getR (j := 3) hx hb hts zi_X0 hown hK zc_X0 (by decide) rfl (fun t fl h => by cases h; rfl) (hts _ wd_185) dd_X0_mixed_56, ?_⟩
  refine List.forall_mem_cons.mpr ⟨ok_iload hx hb dd_X0_mixed_59, ?_⟩
  refine List.forall_mem_cons.mpr ⟨ok_ald (ty := 0) rfl hx hb hK (Or.inl ⟨rfl, rfl, dd_X0_mixed_61⟩), ?_⟩
  refine List.forall_mem_cons.mpr ⟨ok_i2l hx hb dd_X0_mixed_62, ?_⟩
  refine List.forall_mem_cons.mpr ⟨ok_callSN (n := 2) C0 (h_X7_mix (d + 1) (by omega)) (by decide) wd_818 nd_830 wd_817 wd_100 ⟨by decide +kernel, by decide +kernel, by decide +kernel⟩ dd_X0_mixed_63, ?_⟩
  refine List.forall_mem_cons.mpr ⟨ok_lstore_n hx hb rfl dd_X0_mixed_66, ?_⟩
  refine List.forall_mem_cons.mpr ⟨ok_iinc hx hb dd_X0_mixed_67 (by decide), ?_⟩
  refine List.forall_mem_cons.mpr ⟨ok_goto hx hb dd_X0_mixed_70 (by decide), ?_⟩
  refine List.forall_mem_cons.mpr ⟨ok_lload_n hx hb rfl dd_X0_mixed_73, ?_⟩
  refine List.forall_mem_cons.mpr ⟨ok_lret hx hb hr hlocks hQ dd_X0_mixed_74, ?_⟩
  exact fun _ h => absurd h List.not_mem_nil
set_option maxRecDepth 100000 in
theorem vc_X0_mixed_0 {kd : Nat → Nat} {K : zK} {X : zX} (hX : ∀ (n pc : Nat) (ls : zLS) (st : List zV) (M : zM), zrun (tb_X0_mixed kd K) [(5, [])] n X pc ls st M → X pc ls st M) {t : Nat} {p : Int64} {M : zM}  (h : X 5 [some (zR t 0), some (zL (p)), none, some (zL (p)), none, some (zI ((0 : Int32)))] [] M) : X 0 [some (zR t 0), some (zL (p)), none, none, none, none] [] M := hX 6 0 _ [] M (show X 5 [some (zR t 0), some (zL (p)), none, some (zL (p)), none, some (zI ((0 : Int32)))] [] M from h)
set_option maxRecDepth 100000 in
theorem vc_X0_mixed_5 {kd : Nat → Nat} {K : zK} {X : zX} (hX : ∀ (n pc : Nat) (ls : zLS) (st : List zV) (M : zM), zrun (tb_X0_mixed kd K) [(5, [])] n X pc ls st M → X pc ls st M) {t : Nat} {p : Int64} {x : Int64} {n : Int32} {M : zM} (hk0 : kd t = 5) (h : (((M.1 t 0 4) ≤ n) → K (some (zL (x))) M) ∧ ((¬ (M.1 t 0 4) ≤ n) → (((6 : Int32) ≤ n) → K (some (zL (x))) M) ∧ ((¬ (6 : Int32) ≤ n) → (zin (kd t) 1 0 n) ∧ ∀ v1 : Int64, (v1 = 31 * x + ((M.1 t 1 (n).toNatClampNeg).toInt64)) → (zin (kd t) 2 0 n) ∧ ∀ v2 : Int64, (v2 = 31 * v1 + ((M.1 t 2 (n).toNatClampNeg).toInt64)) → (zin (kd t) 3 0 n) ∧ ∀ v3 : Int64, (v3 = 31 * v2 + ((M.1 t 3 (n).toNatClampNeg).toInt64)) → (zin (kd t) 4 0 n) ∧ ∀ v4 : Int64, (v4 = 31 * v3 + ((M.1 t 4 (n).toNatClampNeg).toInt64)) → X 5 [some (zR t 0), some (zL (p)), none, some (zL (v4)), none, some (zI (n + 1))] [] M))) : X 5 [some (zR t 0), some (zL (p)), none, some (zL (x)), none, some (zI (n))] [] M := hX 37 5 _ [] M (show (kd t = 5) ∧ (((M.1 t 0 4) ≤ n) → K (some (zL (x))) M) ∧ ((¬ (M.1 t 0 4) ≤ n) → (((6 : Int32) ≤ n) → K (some (zL (x))) M) ∧ ((¬ (6 : Int32) ≤ n) → (kd t = 5) ∧ (zin (kd t) 1 0 n) ∧ ∀ v1 : Int64, (v1 = 31 * x + ((M.1 t 1 (n).toNatClampNeg).toInt64)) → (kd t = 5) ∧ (zin (kd t) 2 0 n) ∧ ∀ v2 : Int64, (v2 = 31 * v1 + ((M.1 t 2 (n).toNatClampNeg).toInt64)) → (kd t = 5) ∧ (zin (kd t) 3 0 n) ∧ ∀ v3 : Int64, (v3 = 31 * v2 + ((M.1 t 3 (n).toNatClampNeg).toInt64)) → (kd t = 5) ∧ (zin (kd t) 4 0 n) ∧ ∀ v4 : Int64, (v4 = 31 * v3 + ((M.1 t 4 (n).toNatClampNeg).toInt64)) → X 5 [some (zR t 0), some (zL (p)), none, some (zL (v4)), none, some (zI (n + 1))] [] M)) from ⟨hk0, ⟨fun q => have h := h.1 q; h, fun q => have h := h.2 q; ⟨fun q => have h := h.1 q; h, fun q => have h := h.2 q; ⟨hk0, ⟨h.1, have h := h.2; fun v1 => have h := h v1; fun q => have h := h q; ⟨hk0, ⟨h.1, have h := h.2; fun v2 => have h := h v2; fun q => have h := h q; ⟨hk0, ⟨h.1, have h := h.2; fun v3 => have h := h v3; fun q => have h := h q; ⟨hk0, ⟨h.1, have h := h.2; fun v4 => have h := h v4; fun q => have h := h q; h⟩⟩⟩⟩⟩⟩⟩⟩⟩⟩⟩)
def sp_X2_wipe : zSpec := fun kd as M K => match as with
  | [.inr (.inr (.inl (t, 0)))] => (kd t = 2) ∧ (kd (t + 1) = 3) ∧ (kd (t + 2) = 4) ∧ (kd (t + 3) = 5) ∧ ∀ S1 : zB, (RpS S1 sk_0) → ∀ S2 : zB, (RpT S2 []) → ∀ S3 : zB, (RpL S3 []) → ∀ M' : zM, (M' = zbs (zbs (zbs M (t + 1) S1) (t + 2) S2) (t + 3) S3) → K none M'
  | _ => False
theorem rv_X2_wipe : zrv sp_X2_wipe 2 0 := by
  intro kd as M K h
  unfold sp_X2_wipe at h
  split at h
  · exact ⟨_, _, rfl, h.1⟩
  · exact h.elim
theorem dd_X2_wipe_0 : decode cX2_wipe 0 = .ok (.aload_n 0, 1) := by decide +kernel
theorem dd_X2_wipe_1 : decode cX2_wipe 1 = .ok (.getfield 10, 3) := by decide +kernel
theorem dd_X2_wipe_4 : decode cX2_wipe 4 = .ok (.invokevirtual 30, 3) := by decide +kernel
theorem dd_X2_wipe_7 : decode cX2_wipe 7 = .ok (.aload_n 0, 1) := by decide +kernel
theorem dd_X2_wipe_8 : decode cX2_wipe 8 = .ok (.getfield 19, 3) := by decide +kernel
theorem dd_X2_wipe_11 : decode cX2_wipe 11 = .ok (.iconst 0, 1) := by decide +kernel
theorem dd_X2_wipe_12 : decode cX2_wipe 12 = .ok (.putfield 33, 3) := by decide +kernel
theorem dd_X2_wipe_15 : decode cX2_wipe 15 = .ok (.aload_n 0, 1) := by decide +kernel
theorem dd_X2_wipe_16 : decode cX2_wipe 16 = .ok (.getfield 26, 3) := by decide +kernel
theorem dd_X2_wipe_19 : decode cX2_wipe 19 = .ok (.iconst 0, 1) := by decide +kernel
theorem dd_X2_wipe_20 : decode cX2_wipe 20 = .ok (.putfield 37, 3) := by decide +kernel
theorem dd_X2_wipe_23 : decode cX2_wipe 23 = .ok (.return_, 1) := by decide +kernel
def tb_X2_wipe (kd : Nat → Nat) (K : zK) : zTab := [(0, zt_aload 0 1), (1, zt_getR kd 2 1 0 4), (4, zt_call kd sp_X3_wipe 1 7), (7, zt_aload 0 8), (8, zt_getR kd 2 2 0 11), (11, zt_const (zI 0) 12), (12, zt_putI kd 4 1 15), (15, zt_aload 0 16), (16, zt_getR kd 2 3 0 19), (19, zt_const (zI 0) 20), (20, zt_putI kd 5 4 23), (23, zt_vret K)]
set_option maxRecDepth 20000 in
theorem tk_X2_wipe (d : Nat) (h_X3_wipe : zMS 1 yX3_wipe cX3_wipe 2 none sp_X3_wipe) : zTrue RX2 cX2_wipe 1 none (d + 2) (fun kd K => tb_X2_wipe kd K) := by
  intro p l e R s m args below meth c D cy A ad bl Qm K C0 hr hlocks hQ
  obtain ⟨hx, hb, hml, hown, hts, hK, hD, hA0, hN, hE, ⟨hR1, hR2⟩, hc1, hc2⟩ := id C0
  unfold tb_X2_wipe
  refine List.forall_mem_cons.mpr ⟨ok_aload_n hx hb rfl dd_X2_wipe_0, ?_⟩
  refine List.forall_mem_cons.mpr ⟨ok_getR (j := 0) hx hb hts zi_X2 hown hK zc_X2 (by decide) rfl (fun t fl h => by cases h; rfl) (hts _ wd_200) dd_X2_wipe_1, ?_⟩
  refine List.forall_mem_cons.mpr ⟨ok_callVN (n := 0) zc_X3 rv_X3_wipe C0 (h_X3_wipe (d + 1) (by omega)) (by decide) wd_311 nd_308 wd_310 wd_2 wd_102 ⟨by decide +kernel, by decide +kernel, by decide +kernel⟩ dd_X2_wipe_4, ?_⟩
  refine List.forall_mem_cons.mpr ⟨ok_aload_n hx hb rfl dd_X2_wipe_7, ?_⟩
  refine List.forall_mem_cons.mpr ⟨ok_getR (j := 1) hx hb hts zi_X2 hown hK zc_X2 (by decide) rfl (fun t fl h => by cases h; rfl) (hts _ wd_202) dd_X2_wipe_8, ?_⟩
  refine List.forall_mem_cons.mpr ⟨ok_iconst hx hb dd_X2_wipe_11 (by decide), ?_⟩
  refine List.forall_mem_cons.mpr ⟨ok_putIN (j := 1) hx hb hts zi_X4 tyX4 tyX4_ok nmX4 hown hK hD zc_X4 (by decide) rfl rfl (by decide +kernel) (fun t fl h => by cases h; rfl) (va_Nw.use rfl (hN _ nd_169)) dd_X2_wipe_12, ?_⟩
  refine List.forall_mem_cons.mpr ⟨ok_aload_n hx hb rfl dd_X2_wipe_15, ?_⟩
  refine List.forall_mem_cons.mpr ⟨ok_getR (j := 2) hx hb hts zi_X2 hown hK zc_X2 (by decide) rfl (fun t fl h => by cases h; rfl) (hts _ wd_204) dd_X2_wipe_16, ?_⟩
  refine List.forall_mem_cons.mpr ⟨ok_iconst hx hb dd_X2_wipe_19 (by decide), ?_⟩
  refine List.forall_mem_cons.mpr ⟨ok_putIN (j := 4) hx hb hts zi_X0 tyX0 tyX0_ok nmX0 hown hK hD zc_X0 (by decide) rfl rfl (by decide +kernel) (fun t fl h => by cases h; rfl) (va_Nw.use rfl (hN _ nd_187)) dd_X2_wipe_20, ?_⟩
  refine List.forall_mem_cons.mpr ⟨ok_vret hx hb hr hlocks hQ dd_X2_wipe_23, ?_⟩
  exact fun _ h => absurd h List.not_mem_nil
set_option maxRecDepth 100000 in
theorem vc_X2_wipe_0 {kd : Nat → Nat} {K : zK} {X : zX} (hX : ∀ (n pc : Nat) (ls : zLS) (st : List zV) (M : zM), zrun (tb_X2_wipe kd K) [] n X pc ls st M → X pc ls st M) {t : Nat} {M : zM} (hk0 : kd (t + 3) = 5) (hk1 : kd t = 2) (hk2 : kd (t + 2) = 4) (hk3 : kd (t + 1) = 3) (h : ∀ S1 : zB, (RpS S1 (sk_0)) → ∀ M1 : zM, (M1 = zbs M (t + 1) S1) → ∀ M2 : zM, (M2 = zmw M1 (t + 2) 0 (upd (M1.1 (t + 2) 0) 1 (0 : Int32))) → ∀ M3 : zM, (M3 = zmw M2 (t + 3) 0 (upd (M2.1 (t + 3) 0) 4 (0 : Int32))) → K none M3) : X 0 [some (zR t 0)] [] M := hX 13 0 _ [] M (show (kd t = 2) ∧ (kd (t + 1) = 3) ∧ ∀ S1 : zB, (RpS S1 (sk_0)) → ∀ M1 : zM, (M1 = zbs M (t + 1) S1) → (kd t = 2) ∧ (kd (t + 2) = 4) ∧ ∀ M2 : zM, (M2 = zmw M1 (t + 2) 0 (upd (M1.1 (t + 2) 0) 1 (0 : Int32))) → (kd t = 2) ∧ (kd (t + 3) = 5) ∧ ∀ M3 : zM, (M3 = zmw M2 (t + 3) 0 (upd (M2.1 (t + 3) 0) 4 (0 : Int32))) → K none M3 from ⟨hk1, ⟨hk3, fun S1 => have h := h S1; fun q => have h := h q; fun M1 => have h := h M1; fun q => have h := h q; ⟨hk1, ⟨hk2, fun M2 => have h := h M2; fun q => have h := h q; ⟨hk1, ⟨hk0, fun M3 => have h := h M3; fun q => have h := h q; h⟩⟩⟩⟩⟩⟩)
def sp_X2_take : zSpec := fun kd as M K => match as with
  | [.inr (.inr (.inl (t, 0))), .inr (.inr (.inl (u, 0)))] => (kd t = 2) ∧ (kd (t + 1) = 3) ∧ (kd (t + 2) = 4) ∧ (kd (t + 3) = 5) ∧ (kd u = 2) ∧ (kd (u + 1) = 3) ∧ (kd (u + 2) = 4) ∧ (kd (u + 3) = 5) ∧ (t + 3 < u ∨ u + 3 < t) ∧ ∃ a : Sk, (RpS (M.1 (u + 1)) a) ∧ ∃ L : List Int, (RpT (M.1 (u + 2)) L) ∧ ∃ Q : List Se, (RpL (M.1 (u + 3)) Q) ∧ ∀ S1 : zB, (RpS S1 a) → ∀ S2 : zB, (RpT S2 L) → ∀ S3 : zB, (RpL S3 Q) → ∀ M' : zM, (M' = zbs (zbs (zbs M (t + 1) S1) (t + 2) S2) (t + 3) S3) → K none M'
  | _ => False
theorem rv_X2_take : zrv sp_X2_take 2 1 := by
  intro kd as M K h
  unfold sp_X2_take at h
  split at h
  · exact ⟨_, _, rfl, h.1⟩
  · exact h.elim
theorem dd_X2_take_0 : decode cX2_take 0 = .ok (.aload_n 0, 1) := by decide +kernel
theorem dd_X2_take_1 : decode cX2_take 1 = .ok (.getfield 10, 3) := by decide +kernel
theorem dd_X2_take_4 : decode cX2_take 4 = .ok (.aload_n 1, 1) := by decide +kernel
theorem dd_X2_take_5 : decode cX2_take 5 = .ok (.getfield 10, 3) := by decide +kernel
theorem dd_X2_take_8 : decode cX2_take 8 = .ok (.invokevirtual 38, 3) := by decide +kernel
theorem dd_X2_take_11 : decode cX2_take 11 = .ok (.aload_n 0, 1) := by decide +kernel
theorem dd_X2_take_12 : decode cX2_take 12 = .ok (.getfield 19, 3) := by decide +kernel
theorem dd_X2_take_15 : decode cX2_take 15 = .ok (.aload_n 1, 1) := by decide +kernel
theorem dd_X2_take_16 : decode cX2_take 16 = .ok (.getfield 19, 3) := by decide +kernel
theorem dd_X2_take_19 : decode cX2_take 19 = .ok (.invokevirtual 42, 3) := by decide +kernel
theorem dd_X2_take_22 : decode cX2_take 22 = .ok (.aload_n 0, 1) := by decide +kernel
theorem dd_X2_take_23 : decode cX2_take 23 = .ok (.getfield 26, 3) := by decide +kernel
theorem dd_X2_take_26 : decode cX2_take 26 = .ok (.aload_n 1, 1) := by decide +kernel
theorem dd_X2_take_27 : decode cX2_take 27 = .ok (.getfield 26, 3) := by decide +kernel
theorem dd_X2_take_30 : decode cX2_take 30 = .ok (.invokevirtual 45, 3) := by decide +kernel
theorem dd_X2_take_33 : decode cX2_take 33 = .ok (.return_, 1) := by decide +kernel
def tb_X2_take (kd : Nat → Nat) (K : zK) : zTab := [(0, zt_aload 0 1), (1, zt_getR kd 2 1 0 4), (4, zt_aload 1 5), (5, zt_getR kd 2 1 0 8), (8, zt_call kd sp_X3_take 2 11), (11, zt_aload 0 12), (12, zt_getR kd 2 2 0 15), (15, zt_aload 1 16), (16, zt_getR kd 2 2 0 19), (19, zt_call kd sp_X4_take 2 22), (22, zt_aload 0 23), (23, zt_getR kd 2 3 0 26), (26, zt_aload 1 27), (27, zt_getR kd 2 3 0 30), (30, zt_call kd sp_X0_take 2 33), (33, zt_vret K)]
set_option maxRecDepth 20000 in
theorem tk_X2_take (d : Nat) (h_X3_take : zMS 1 yX3_take cX3_take 2 none sp_X3_take) (h_X4_take : zMS 1 yX4_take cX4_take 2 none sp_X4_take) (h_X0_take : zMS 1 yX0_take cX0_take 2 none sp_X0_take) : zTrue RX2 cX2_take 2 none (d + 2) (fun kd K => tb_X2_take kd K) := by
  intro p l e R s m args below meth c D cy A ad bl Qm K C0 hr hlocks hQ
  obtain ⟨hx, hb, hml, hown, hts, hK, hD, hA0, hN, hE, ⟨hR1, hR2⟩, hc1, hc2⟩ := id C0
  unfold tb_X2_take
  refine List.forall_mem_cons.mpr ⟨ok_aload_n hx hb rfl dd_X2_take_0, ?_⟩
  refine List.forall_mem_cons.mpr ⟨ok_getR (j := 0) hx hb hts zi_X2 hown hK zc_X2 (by decide) rfl (fun t fl h => by cases h; rfl) (hts _ wd_200) dd_X2_take_1, ?_⟩
  refine List.forall_mem_cons.mpr ⟨ok_aload_n hx hb rfl dd_X2_take_4, ?_⟩
  refine List.forall_mem_cons.mpr ⟨ok_getR (j := 0) hx hb hts zi_X2 hown hK zc_X2 (by decide) rfl (fun t fl h => by cases h; rfl) (hts _ wd_200) dd_X2_take_5, ?_⟩
  refine List.forall_mem_cons.mpr ⟨ok_callVN (n := 1) zc_X3 rv_X3_take C0 (h_X3_take (d + 1) (by omega)) (by decide) wd_525 nd_784 wd_524 wd_22 wd_102 ⟨by decide +kernel, by decide +kernel, by decide +kernel⟩ dd_X2_take_8, ?_⟩
  refine List.forall_mem_cons.mpr ⟨ok_aload_n hx hb rfl dd_X2_take_11, ?_⟩
  refine List.forall_mem_cons.mpr ⟨ok_getR (j := 1) hx hb hts zi_X2 hown hK zc_X2 (by decide) rfl (fun t fl h => by cases h; rfl) (hts _ wd_202) dd_X2_take_12, ?_⟩
  refine List.forall_mem_cons.mpr ⟨ok_aload_n hx hb rfl dd_X2_take_15, ?_⟩
  refine List.forall_mem_cons.mpr ⟨ok_getR (j := 1) hx hb hts zi_X2 hown hK zc_X2 (by decide) rfl (fun t fl h => by cases h; rfl) (hts _ wd_202) dd_X2_take_16, ?_⟩
  refine List.forall_mem_cons.mpr ⟨ok_callVN (n := 1) zc_X4 rv_X4_take C0 (h_X4_take (d + 1) (by omega)) (by decide) wd_788 nd_785 wd_787 wd_57 wd_103 ⟨by decide +kernel, by decide +kernel, by decide +kernel⟩ dd_X2_take_19, ?_⟩
  refine List.forall_mem_cons.mpr ⟨ok_aload_n hx hb rfl dd_X2_take_22, ?_⟩
  refine List.forall_mem_cons.mpr ⟨ok_getR (j := 2) hx hb hts zi_X2 hown hK zc_X2 (by decide) rfl (fun t fl h => by cases h; rfl) (hts _ wd_204) dd_X2_take_23, ?_⟩
  refine List.forall_mem_cons.mpr ⟨ok_aload_n hx hb rfl dd_X2_take_26, ?_⟩
  refine List.forall_mem_cons.mpr ⟨ok_getR (j := 2) hx hb hts zi_X2 hown hK zc_X2 (by decide) rfl (fun t fl h => by cases h; rfl) (hts _ wd_204) dd_X2_take_27, ?_⟩
  refine List.forall_mem_cons.mpr ⟨ok_callVN (n := 1) zc_X0 rv_X0_take C0 (h_X0_take (d + 1) (by omega)) (by decide) wd_792 nd_789 wd_791 wd_58 wd_104 ⟨by decide +kernel, by decide +kernel, by decide +kernel⟩ dd_X2_take_30, ?_⟩
  refine List.forall_mem_cons.mpr ⟨ok_vret hx hb hr hlocks hQ dd_X2_take_33, ?_⟩
  exact fun _ h => absurd h List.not_mem_nil
set_option maxRecDepth 100000 in
theorem vc_X2_take_0 {kd : Nat → Nat} {K : zK} {X : zX} (hX : ∀ (n pc : Nat) (ls : zLS) (st : List zV) (M : zM), zrun (tb_X2_take kd K) [] n X pc ls st M → X pc ls st M) {t : Nat} {u : Nat} {M : zM} (hk0 : kd (u + 3) = 5) (hk1 : kd (t + 3) = 5) (hk2 : kd u = 2) (hk3 : kd t = 2) (hk4 : kd (u + 2) = 4) (hk5 : kd (t + 2) = 4) (hk6 : kd (u + 1) = 3) (hk7 : kd (t + 1) = 3) (h : (¬ (t + 1) = (u + 1)) ∧ ∃ a1 : Sk, (RpS (M.1 (u + 1)) a1) ∧ ∀ S1 : zB, (RpS S1 (a1)) → ∀ M1 : zM, (M1 = zbs M (t + 1) S1) → (¬ (t + 2) = (u + 2)) ∧ ∃ L2 : List Int, (RpT (M1.1 (u + 2)) L2) ∧ ∀ S2 : zB, (RpT S2 L2) → ∀ M2 : zM, (M2 = zbs M1 (t + 2) S2) → (¬ (t + 3) = (u + 3)) ∧ ∃ L3 : List Se, (RpL (M2.1 (u + 3)) L3) ∧ ∀ S3 : zB, (RpL S3 L3) → ∀ M3 : zM, (M3 = zbs M2 (t + 3) S3) → K none M3) : X 0 [some (zR t 0), some (zR u 0)] [] M := hX 17 0 _ [] M (show (kd t = 2) ∧ (kd u = 2) ∧ (kd (t + 1) = 3) ∧ (kd (u + 1) = 3) ∧ (¬ (t + 1) = (u + 1)) ∧ ∃ a1 : Sk, (RpS (M.1 (u + 1)) a1) ∧ ∀ S1 : zB, (RpS S1 (a1)) → ∀ M1 : zM, (M1 = zbs M (t + 1) S1) → (kd t = 2) ∧ (kd u = 2) ∧ (kd (t + 2) = 4) ∧ (kd (u + 2) = 4) ∧ (¬ (t + 2) = (u + 2)) ∧ ∃ L2 : List Int, (RpT (M1.1 (u + 2)) L2) ∧ ∀ S2 : zB, (RpT S2 L2) → ∀ M2 : zM, (M2 = zbs M1 (t + 2) S2) → (kd t = 2) ∧ (kd u = 2) ∧ (kd (t + 3) = 5) ∧ (kd (u + 3) = 5) ∧ (¬ (t + 3) = (u + 3)) ∧ ∃ L3 : List Se, (RpL (M2.1 (u + 3)) L3) ∧ ∀ S3 : zB, (RpL S3 L3) → ∀ M3 : zM, (M3 = zbs M2 (t + 3) S3) → K none M3 from ⟨hk3, ⟨hk2, ⟨hk7, ⟨hk6, ⟨h.1, have h := h.2; h.elim (fun a1 h => ⟨a1, ⟨h.1, have h := h.2; fun S1 => have h := h S1; fun q => have h := h q; fun M1 => have h := h M1; fun q => have h := h q; ⟨hk3, ⟨hk2, ⟨hk5, ⟨hk4, ⟨h.1, have h := h.2; h.elim (fun L2 h => ⟨L2, ⟨h.1, have h := h.2; fun S2 => have h := h S2; fun q => have h := h q; fun M2 => have h := h M2; fun q => have h := h q; ⟨hk3, ⟨hk2, ⟨hk1, ⟨hk0, ⟨h.1, have h := h.2; h.elim (fun L3 h => ⟨L3, ⟨h.1, have h := h.2; fun S3 => have h := h S3; fun q => have h := h q; fun M3 => have h := h M3; fun q => have h := h q; h⟩⟩)⟩⟩⟩⟩⟩⟩⟩)⟩⟩⟩⟩⟩⟩⟩)⟩⟩⟩⟩⟩)
