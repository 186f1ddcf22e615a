
/-! the trial: a skin, a thing, a year, what each cell says -/
def RpR (M : zM) (t : Nat) (a : Sk) (g y : Int) : Prop := RpS (M.1 (t + 1)) a ∧ (0 ≤ g ∧ g ≤ 4) ∧ (0 ≤ y ∧ y < 1000000) ∧ (M.1 t 0 2).toInt = g ∧ (M.1 t 0 3).toInt = y ∧ ∀ c : Nat, c < 6 → (M.1 t 1 c).toInt = sk_lawC a c g y
def trF (M : zM) (t : Nat) (M' : zM) : Prop := (∀ u, u ≠ t → u ≠ t + 1 → M'.1 u = M.1 u) ∧ M'.2 = M.2
def tr_may (a : Sk) (w : Int) : Bool := decide (w = 20) || sk_may a w
def tr_do (a : Sk) (w g e : Int) : Sk := if w = 20 then a else sk_do a w g e
def tr_aft (b : Sk) (w : Int) (a : Sk) : Prop := if w = 20 then a = b else sk_aft b w a
def le12 (q : Int) : Int := if q = 1 then 1 else 0
def rowOk (g y v : Int) : Nat → Sk → Bool
  | 0, a => decide (sk_law a g y = v)
  | n + 1, a => (List.range 20).any (fun w => sk_may a w && rowOk g y v n (sk_do a w g (le12 v)))
def isFst (p : Nat → Bool) (N : Nat) (v : Int) : Prop := (v = -1 ∧ ∀ w, w < N → p w = false) ∨ ∃ w : Nat, w < N ∧ v = w ∧ p w = true ∧ ∀ w', w' < w → p w' = false
def wlaw (x : Int) : Int := if x = 1 then 2 else if x = 2 then 0 else 1
/-- the best among the strokes below n, and the first stroke of it; e is 1 where the greatest is sought -/
def bst (e : Int) (p : Nat → Bool) (f : Nat → Int) : Nat → Int × Int
  | 0 => (if e = 1 then -1 else 3, 20)
  | n + 1 => if p n && (if e = 1 then decide ((bst e p f n).1 < f n) else decide (f n < (bst e p f n).1)) then (f n, (n : Int)) else bst e p f n
def wv (g y : Int) : Nat → Int → Sk → Int
  | 0, _, a => wlaw (sk_law a g y)
  | n + 1, e, a => (bst e (fun w => tr_may a w) (fun w => wv g y n (1 - e) (tr_do a w g e)) 21).1
def wc (g y : Int) (n : Nat) (e : Int) (a : Sk) : Int := (bst e (fun w => tr_may a w) (fun w => wv g y n (1 - e) (tr_do a w g e)) 21).2
def sp_X6_begin : zSpec := fun kd as M K => match as with
  | [.inr (.inr (.inl (t, 0))), .inr (.inr (.inl (u, 0))), .inl p, .inl q] => (kd t = 6) ∧ (kd (t + 1) = 3) ∧ (kd u = 3) ∧ (¬ t = u) ∧ (¬ t + 1 = u) ∧ ∃ a : Sk, (RpS (M.1 u) a) ∧ (0 ≤ p.toInt ∧ p.toInt ≤ 4) ∧ (0 ≤ q.toInt ∧ q.toInt < 1000000) ∧ ∀ M' : zM, (trF M t M') → (RpR M' t a p.toInt q.toInt) → K none M'
  | _ => False
theorem rv_X6_begin : zrv sp_X6_begin 6 3 := by
  intro kd as M K h
  unfold sp_X6_begin at h
  split at h
  · exact ⟨_, _, rfl, h.1⟩
  · exact h.elim
theorem dd_X6_begin_0 : decode cX6_begin 0 = .ok (.aload_n 0, 1) := by decide +kernel
theorem dd_X6_begin_1 : decode cX6_begin 1 = .ok (.getfield 12, 3) := by decide +kernel
theorem dd_X6_begin_4 : decode cX6_begin 4 = .ok (.aload_n 1, 1) := by decide +kernel
theorem dd_X6_begin_5 : decode cX6_begin 5 = .ok (.invokevirtual 32, 3) := by decide +kernel
theorem dd_X6_begin_8 : decode cX6_begin 8 = .ok (.aload_n 0, 1) := by decide +kernel
theorem dd_X6_begin_9 : decode cX6_begin 9 = .ok (.iload_n 2, 1) := by decide +kernel
theorem dd_X6_begin_10 : decode cX6_begin 10 = .ok (.putfield 22, 3) := by decide +kernel
theorem dd_X6_begin_13 : decode cX6_begin 13 = .ok (.aload_n 0, 1) := by decide +kernel
theorem dd_X6_begin_14 : decode cX6_begin 14 = .ok (.iload_n 3, 1) := by decide +kernel
theorem dd_X6_begin_15 : decode cX6_begin 15 = .ok (.putfield 26, 3) := by decide +kernel
theorem dd_X6_begin_18 : decode cX6_begin 18 = .ok (.iconst 0, 1) := by decide +kernel
theorem dd_X6_begin_19 : decode cX6_begin 19 = .ok (.istore 4, 2) := by decide +kernel
theorem dd_X6_begin_21 : decode cX6_begin 21 = .ok (.iload 4, 2) := by decide +kernel
theorem dd_X6_begin_23 : decode cX6_begin 23 = .ok (.bipush 6, 2) := by decide +kernel
theorem dd_X6_begin_25 : decode cX6_begin 25 = .ok (.if_icmp .ge 33, 3) := by decide +kernel
theorem dd_X6_begin_28 : decode cX6_begin 28 = .ok (.aload_n 0, 1) := by decide +kernel
theorem dd_X6_begin_29 : decode cX6_begin 29 = .ok (.getfield 18, 3) := by decide +kernel
theorem dd_X6_begin_32 : decode cX6_begin 32 = .ok (.iload 4, 2) := by decide +kernel
theorem dd_X6_begin_34 : decode cX6_begin 34 = .ok (.aload_n 0, 1) := by decide +kernel
theorem dd_X6_begin_35 : decode cX6_begin 35 = .ok (.getfield 12, 3) := by decide +kernel
theorem dd_X6_begin_38 : decode cX6_begin 38 = .ok (.iload 4, 2) := by decide +kernel
theorem dd_X6_begin_40 : decode cX6_begin 40 = .ok (.aload_n 0, 1) := by decide +kernel
theorem dd_X6_begin_41 : decode cX6_begin 41 = .ok (.getfield 22, 3) := by decide +kernel
theorem dd_X6_begin_44 : decode cX6_begin 44 = .ok (.aload_n 0, 1) := by decide +kernel
theorem dd_X6_begin_45 : decode cX6_begin 45 = .ok (.getfield 26, 3) := by decide +kernel
theorem dd_X6_begin_48 : decode cX6_begin 48 = .ok (.invokevirtual 36, 3) := by decide +kernel
theorem dd_X6_begin_51 : decode cX6_begin 51 = .ok (.iastore, 1) := by decide +kernel
theorem dd_X6_begin_52 : decode cX6_begin 52 = .ok (.iinc 4 1, 3) := by decide +kernel
theorem dd_X6_begin_55 : decode cX6_begin 55 = .ok (.goto (-34), 3) := by decide +kernel
theorem dd_X6_begin_58 : decode cX6_begin 58 = .ok (.return_, 1) := by decide +kernel
def tb_X6_begin (kd : Nat → Nat) (K : zK) : zTab := [(0, zt_aload 0 1), (1, zt_getR kd 6 1 0 4), (4, zt_aload 1 5), (5, zt_call kd sp_X3_take 2 8), (8, zt_aload 0 9), (9, zt_iload 2 10), (10, zt_putI kd 6 2 13), (13, zt_aload 0 14), (14, zt_iload 3 15), (15, zt_putI kd 6 3 18), (18, zt_const (zI 0) 19), (19, zt_istore 4 21), (21, zt_iload 4 23), (23, zt_const (zI 6) 25), (25, zt_icmp (fun x y => y ≤ x) (fun x y => ¬ y ≤ x) 58 28), (28, zt_aload 0 29), (29, zt_getR kd 6 0 1 32), (32, zt_iload 4 34), (34, zt_aload 0 35), (35, zt_getR kd 6 1 0 38), (38, zt_iload 4 40), (40, zt_aload 0 41), (41, zt_getI kd 6 2 44), (44, zt_aload 0 45), (45, zt_getI kd 6 3 48), (48, zt_call kd sp_X3_lawOfCell 4 51), (51, zt_ast kd 0 52), (52, zt_iinc 4 1 55), (55, zt_goto 21), (58, zt_vret K)]
set_option maxRecDepth 20000 in
theorem tk_X6_begin (d : Nat) (h_X3_take : zMS 1 yX3_take cX3_take 2 none sp_X3_take) (h_X3_lawOfCell : zMS 4 yX3_lawOfCell cX3_lawOfCell 7 (some .int) sp_X3_lawOfCell) : zTrue RX6 cX6_begin 5 none (d + 5) (fun kd K => tb_X6_begin kd K) := by
  intro p l e R s m args below meth c D cy A ad bl Qm K C0 hr hlocks hQ
  obtain ⟨hx, hb, hml, hown, hts, hK, hD, hA0, hN, hE, ⟨hR1, hR2⟩, hc1, hc2⟩ := id C0
  unfold tb_X6_begin
  refine List.forall_mem_cons.mpr ⟨ok_aload_n hx hb rfl dd_X6_begin_0, ?_⟩
  refine List.forall_mem_cons.mpr ⟨ok_getR (j := 0) hx hb hts zi_X6 hown hK zc_X6 (by decide) rfl (fun t fl h => by cases h; rfl) (hts _ wd_224) dd_X6_begin_1, ?_⟩
  refine List.forall_mem_cons.mpr ⟨ok_aload_n hx hb rfl dd_X6_begin_4, ?_⟩
  refine List.forall_mem_cons.mpr ⟨ok_callVN (n := 1) zc_X3 rv_X3_take C0 (h_X3_take (d + 4) (by omega)) (by decide) wd_525 nd_640 wd_524 wd_22 wd_102 ⟨by decide +kernel, by decide +kernel, by decide +kernel⟩ dd_X6_begin_5, ?_⟩
  refine List.forall_mem_cons.mpr ⟨ok_aload_n hx hb rfl dd_X6_begin_8, ?_⟩
  refine List.forall_mem_cons.mpr ⟨ok_iload_n hx hb rfl dd_X6_begin_9, ?_⟩
  refine List.forall_mem_cons.mpr ⟨ok_putI (j := 2) hx hb hts zi_X6 tyX6 tyX6_ok nmX6 hown hK hD zc_X6 (by decide) rfl rfl (by decide +kernel) (fun t fl h => by cases h; rfl) (hts _ wd_226) dd_X6_begin_10, ?_⟩
  refine List.forall_mem_cons.mpr ⟨ok_aload_n hx hb rfl dd_X6_begin_13, ?_⟩
  refine List.forall_mem_cons.mpr ⟨ok_iload_n hx hb rfl dd_X6_begin_14, ?_⟩
  refine List.forall_mem_cons.mpr ⟨ok_putI (j := 3) hx hb hts zi_X6 tyX6 tyX6_ok nmX6 hown hK hD zc_X6 (by decide) rfl rfl (by decide +kernel) (fun t fl h => by cases h; rfl) (hts _ wd_227) dd_X6_begin_15, ?_⟩
  refine List.forall_mem_cons.mpr ⟨ok_iconst hx hb dd_X6_begin_18 (by decide), ?_⟩
  refine List.forall_mem_cons.mpr ⟨ok_istore hx hb dd_X6_begin_19, ?_⟩
  refine List.forall_mem_cons.mpr ⟨ok_iload hx hb dd_X6_begin_21, ?_⟩
  refine List.forall_mem_cons.mpr ⟨ok_bipush hx hb dd_X6_begin_23 (by decide), ?_⟩
  refine List.forall_mem_cons.mpr ⟨ok_icmp_ge hx hb dd_X6_begin_25 (by decide), ?_⟩
  refine List.forall_mem_cons.mpr ⟨ok_aload_n hx hb rfl dd_X6_begin_28, ?_⟩
  refine List.forall_mem_cons.mpr ⟨ok_getR (j := 1) hx hb hts zi_X6 hown hK zc_X6 (by decide) rfl (fun t fl h => by cases h; rfl) (hts _ wd_225) dd_X6_begin_29, ?_⟩
  refine List.forall_mem_cons.mpr ⟨ok_iload hx hb dd_X6_begin_32, ?_⟩
  refine List.forall_mem_cons.mpr ⟨ok_aload_n hx hb rfl dd_X6_begin_34, ?_⟩
  refine List.forall_mem_cons.mpr ⟨ok_getR (j := 0) hx hb hts zi_X6 hown hK zc_X6 (by decide) rfl (fun t fl h => by cases h; rfl) (hts _ wd_224) dd_X6_begin_35, ?_⟩
  refine List.forall_mem_cons.mpr ⟨ok_iload hx hb dd_X6_begin_38, ?_⟩
  refine List.forall_mem_cons.mpr ⟨ok_aload_n hx hb rfl dd_X6_begin_40, ?_⟩
  refine List.forall_mem_cons.mpr ⟨ok_getI (j := 2) hx hb hts zi_X6 hown hK zc_X6 (by decide) rfl (fun t fl h => by cases h; rfl) (hts _ wd_226) dd_X6_begin_41, ?_⟩
  refine List.forall_mem_cons.mpr ⟨ok_aload_n hx hb rfl dd_X6_begin_44, ?_⟩
  refine List.forall_mem_cons.mpr ⟨ok_getI (j := 3) hx hb hts zi_X6 hown hK zc_X6 (by decide) rfl (fun t fl h => by cases h; rfl) (hts _ wd_227) dd_X6_begin_45, ?_⟩
  refine List.forall_mem_cons.mpr ⟨ok_callVN (n := 3) zc_X3 rv_X3_lawOfCell C0 (h_X3_lawOfCell (d + 4) (by omega)) (by decide) wd_582 nd_641 wd_581 wd_30 wd_102 ⟨by decide +kernel, by decide +kernel, by decide +kernel⟩ dd_X6_begin_48, ?_⟩
  refine List.forall_mem_cons.mpr ⟨ok_ast (ty := 0) rfl hx hb hK hD (Or.inl ⟨rfl, rfl, dd_X6_begin_51⟩), ?_⟩
  refine List.forall_mem_cons.mpr ⟨ok_iinc hx hb dd_X6_begin_52 (by decide), ?_⟩
  refine List.forall_mem_cons.mpr ⟨ok_goto hx hb dd_X6_begin_55 (by decide), ?_⟩
  refine List.forall_mem_cons.mpr ⟨ok_vret hx hb hr hlocks hQ dd_X6_begin_58, ?_⟩
  exact fun _ h => absurd h List.not_mem_nil
set_option maxRecDepth 100000 in
theorem vc_X6_begin_0 {kd : Nat → Nat} {K : zK} {X : zX} (hX : ∀ (n pc : Nat) (ls : zLS) (st : List zV) (M : zM), zrun (tb_X6_begin kd K) [(21, [1, 2, 3])] n X pc ls st M → X pc ls st M) {t : Nat} {u : Nat} {p : Int32} {q : Int32} {M : zM} (hk0 : kd t = 6) (hk1 : kd u = 3) (hk2 : kd (t + 1) = 3) (h : (¬ (t + 1) = u) ∧ ∃ a1 : Sk, (RpS (M.1 u) a1) ∧ ∀ S1 : zB, (RpS S1 (a1)) → ∀ M1 : zM, (M1 = zbs M (t + 1) S1) → ∀ M2 : zM, (M2 = zmw M1 t 0 (upd (M1.1 t 0) 2 p)) → ∀ M3 : zM, (M3 = zmw M2 t 0 (upd (M2.1 t 0) 3 q)) → X 21 [some (zR t 0), none, none, none, some (zI ((0 : Int32)))] [] M3) : X 0 [some (zR t 0), some (zR u 0), some (zI (p)), some (zI (q)), none] [] M := hX 14 0 _ [] M (show (kd t = 6) ∧ (kd (t + 1) = 3) ∧ (kd u = 3) ∧ (¬ (t + 1) = u) ∧ ∃ a1 : Sk, (RpS (M.1 u) a1) ∧ ∀ S1 : zB, (RpS S1 (a1)) → ∀ M1 : zM, (M1 = zbs M (t + 1) S1) → (kd t = 6) ∧ ∀ M2 : zM, (M2 = zmw M1 t 0 (upd (M1.1 t 0) 2 p)) → (kd t = 6) ∧ ∀ M3 : zM, (M3 = zmw M2 t 0 (upd (M2.1 t 0) 3 q)) → X 21 [some (zR t 0), none, none, none, some (zI ((0 : Int32)))] [] M3 from ⟨hk0, ⟨hk2, ⟨hk1, ⟨h.1, have h := h.2; h.elim (fun a1 h => ⟨a1, ⟨h.1, have h := h.2; fun S1 => have h := h S1; fun q => have h := h q; fun M1 => have h := h M1; fun q => have h := h q; ⟨hk0, fun M2 => have h := h M2; fun q => have h := h q; ⟨hk0, fun M3 => have h := h M3; fun q => have h := h q; h⟩⟩⟩⟩)⟩⟩⟩⟩)
set_option maxRecDepth 100000 in
theorem vc_X6_begin_21 {kd : Nat → Nat} {K : zK} {X : zX} (hX : ∀ (n pc : Nat) (ls : zLS) (st : List zV) (M : zM), zrun (tb_X6_begin kd K) [(21, [1, 2, 3])] n X pc ls st M → X pc ls st M) {t : Nat} {c : Int32} {M : zM} (hk0 : kd (t + 1) = 3) (hk1 : kd t = 6) (h : (((6 : Int32) ≤ c) → K none M) ∧ ((¬ (6 : Int32) ≤ c) → ∃ a1 : Sk, (RpS (M.1 (t + 1)) a1) ∧ (0 ≤ c.toInt ∧ c.toInt < 6) ∧ (0 ≤ (M.1 t 0 3).toInt ∧ (M.1 t 0 3).toInt < 1000000) ∧ ∀ v1 : Int32, (v1.toInt = sk_lawC a1 c.toInt (M.1 t 0 2).toInt (M.1 t 0 3).toInt) → (zin (kd t) 1 0 c) ∧ ∀ M2 : zM, (M2 = zmw M t 1 (upd (M.1 t 1) (c).toNatClampNeg v1)) → X 21 [some (zR t 0), none, none, none, some (zI (c + 1))] [] M2)) : X 21 [some (zR t 0), none, none, none, some (zI (c))] [] M := hX 19 21 _ [] M (show (((6 : Int32) ≤ c) → K none M) ∧ ((¬ (6 : Int32) ≤ c) → (kd t = 6) ∧ (kd t = 6) ∧ (kd t = 6) ∧ (kd t = 6) ∧ (kd (t + 1) = 3) ∧ ∃ a1 : Sk, (RpS (M.1 (t + 1)) a1) ∧ (0 ≤ c.toInt ∧ c.toInt < 6) ∧ (0 ≤ (M.1 t 0 3).toInt ∧ (M.1 t 0 3).toInt < 1000000) ∧ ∀ v1 : Int32, (v1.toInt = sk_lawC a1 c.toInt (M.1 t 0 2).toInt (M.1 t 0 3).toInt) → (zin (kd t) 1 0 c) ∧ ∀ M2 : zM, (M2 = zmw M t 1 (upd (M.1 t 1) (c).toNatClampNeg v1)) → X 21 [some (zR t 0), none, none, none, some (zI (c + 1))] [] M2) from ⟨fun q => have h := h.1 q; h, fun q => have h := h.2 q; ⟨hk1, ⟨hk1, ⟨hk1, ⟨hk1, ⟨hk0, h.elim (fun a1 h => ⟨a1, ⟨h.1, have h := h.2; ⟨h.1, have h := h.2; ⟨h.1, have h := h.2; fun v1 => have h := h v1; fun q => have h := h q; ⟨h.1, have h := h.2; fun M2 => have h := h M2; fun q => have h := h q; h⟩⟩⟩⟩⟩)⟩⟩⟩⟩⟩⟩)
def sp_X6_law : zSpec := fun kd as M K => match as with
  | [.inr (.inr (.inl (t, 0)))] => (kd t = 6) ∧ (kd (t + 1) = 3) ∧ ∃ a : Sk, ∃ g : Int, ∃ y : Int, (RpR M t a g y) ∧ ∀ v : Int32, (v.toInt = sk_law a g y) → K (some (.inl v)) M
  | _ => False
theorem rv_X6_law : zrv sp_X6_law 6 0 := by
  intro kd as M K h
  unfold sp_X6_law at h
  split at h
  · exact ⟨_, _, rfl, h.1⟩
  · exact h.elim
theorem dd_X6_law_0 : decode cX6_law 0 = .ok (.iconst 0, 1) := by decide +kernel
theorem dd_X6_law_1 : decode cX6_law 1 = .ok (.istore_n 1, 1) := by decide +kernel
theorem dd_X6_law_2 : decode cX6_law 2 = .ok (.iconst 0, 1) := by decide +kernel
theorem dd_X6_law_3 : decode cX6_law 3 = .ok (.istore_n 2, 1) := by decide +kernel
theorem dd_X6_law_4 : decode cX6_law 4 = .ok (.iload_n 2, 1) := by decide +kernel
theorem dd_X6_law_5 : decode cX6_law 5 = .ok (.bipush 6, 2) := by decide +kernel
theorem dd_X6_law_7 : decode cX6_law 7 = .ok (.if_icmp .ge 18, 3) := by decide +kernel
theorem dd_X6_law_10 : decode cX6_law 10 = .ok (.iload_n 1, 1) := by decide +kernel
theorem dd_X6_law_11 : decode cX6_law 11 = .ok (.aload_n 0, 1) := by decide +kernel
theorem dd_X6_law_12 : decode cX6_law 12 = .ok (.getfield 18, 3) := by decide +kernel
theorem dd_X6_law_15 : decode cX6_law 15 = .ok (.iload_n 2, 1) := by decide +kernel
theorem dd_X6_law_16 : decode cX6_law 16 = .ok (.iaload, 1) := by decide +kernel
theorem dd_X6_law_17 : decode cX6_law 17 = .ok (.ior, 1) := by decide +kernel
theorem dd_X6_law_18 : decode cX6_law 18 = .ok (.istore_n 1, 1) := by decide +kernel
theorem dd_X6_law_19 : decode cX6_law 19 = .ok (.iinc 2 1, 3) := by decide +kernel
theorem dd_X6_law_22 : decode cX6_law 22 = .ok (.goto (-18), 3) := by decide +kernel
theorem dd_X6_law_25 : decode cX6_law 25 = .ok (.iload_n 1, 1) := by decide +kernel
theorem dd_X6_law_26 : decode cX6_law 26 = .ok (.ireturn, 1) := by decide +kernel
def tb_X6_law (kd : Nat → Nat) (K : zK) : zTab := [(0, zt_const (zI 0) 1), (1, zt_istore 1 2), (2, zt_const (zI 0) 3), (3, zt_istore 2 4), (4, zt_iload 2 5), (5, zt_const (zI 6) 7), (7, zt_icmp (fun x y => y ≤ x) (fun x y => ¬ y ≤ x) 25 10), (10, zt_iload 1 11), (11, zt_aload 0 12), (12, zt_getR kd 6 0 1 15), (15, zt_iload 2 16), (16, zt_ald kd 0 17), (17, zt_bin (fun x y => x ||| y) 18), (18, zt_istore 1 19), (19, zt_iinc 2 1 22), (22, zt_goto 4), (25, zt_iload 1 26), (26, zt_iret K)]
set_option maxRecDepth 20000 in
theorem tk_X6_law (d : Nat)  : zTrue RX6 cX6_law 3 (some .int) (d + 1) (fun kd K => tb_X6_law kd K) := by
  intro p l e R s m args below meth c D cy A ad bl Qm K C0 hr hlocks hQ
  obtain ⟨hx, hb, hml, hown, hts, hK, hD, hA0, hN, hE, ⟨hR1, hR2⟩, hc1, hc2⟩ := id C0
  unfold tb_X6_law
  refine List.forall_mem_cons.mpr ⟨ok_iconst hx hb dd_X6_law_0 (by decide), ?_⟩
  refine List.forall_mem_cons.mpr ⟨ok_istore_n hx hb rfl dd_X6_law_1, ?_⟩
  refine List.forall_mem_cons.mpr ⟨ok_iconst hx hb dd_X6_law_2 (by decide), ?_⟩
  refine List.forall_mem_cons.mpr ⟨ok_istore_n hx hb rfl dd_X6_law_3, ?_⟩
  refine List.forall_mem_cons.mpr ⟨ok_iload_n hx hb rfl dd_X6_law_4, ?_⟩
  refine List.forall_mem_cons.mpr ⟨ok_bipush hx hb dd_X6_law_5 (by decide), ?_⟩
  refine List.forall_mem_cons.mpr ⟨ok_icmp_ge hx hb dd_X6_law_7 (by decide), ?_⟩
  refine List.forall_mem_cons.mpr ⟨ok_iload_n hx hb rfl dd_X6_law_10, ?_⟩
  refine List.forall_mem_cons.mpr ⟨ok_aload_n hx hb rfl dd_X6_law_11, ?_⟩
  refine List.forall_mem_cons.mpr ⟨ok_getR (j := 1) hx hb hts zi_X6 hown hK zc_X6 (by decide) rfl (fun t fl h => by cases h; rfl) (hts _ wd_225) dd_X6_law_12, ?_⟩
  refine List.forall_mem_cons.mpr ⟨ok_iload_n hx hb rfl dd_X6_law_15, ?_⟩
  refine List.forall_mem_cons.mpr ⟨ok_ald (ty := 0) rfl hx hb hK (Or.inl ⟨rfl, rfl, dd_X6_law_16⟩), ?_⟩
  refine List.forall_mem_cons.mpr ⟨ok_ior hx hb dd_X6_law_17, ?_⟩
  refine List.forall_mem_cons.mpr ⟨ok_istore_n hx hb rfl dd_X6_law_18, ?_⟩
  refine List.forall_mem_cons.mpr ⟨ok_iinc hx hb dd_X6_law_19 (by decide), ?_⟩
  refine List.forall_mem_cons.mpr ⟨ok_goto hx hb dd_X6_law_22 (by decide), ?_⟩
  refine List.forall_mem_cons.mpr ⟨ok_iload_n hx hb rfl dd_X6_law_25, ?_⟩
  refine List.forall_mem_cons.mpr ⟨ok_iret hx hb hr hlocks hQ dd_X6_law_26, ?_⟩
  exact fun _ h => absurd h List.not_mem_nil
set_option maxRecDepth 100000 in
theorem vc_X6_law_0 {kd : Nat → Nat} {K : zK} {X : zX} (hX : ∀ (n pc : Nat) (ls : zLS) (st : List zV) (M : zM), zrun (tb_X6_law kd K) [(4, [])] n X pc ls st M → X pc ls st M) {t : Nat} {M : zM}  (h : X 4 [some (zR t 0), some (zI ((0 : Int32))), some (zI ((0 : Int32)))] [] M) : X 0 [some (zR t 0), none, none] [] M := hX 6 0 _ [] M (show X 4 [some (zR t 0), some (zI ((0 : Int32))), some (zI ((0 : Int32)))] [] M from h)
set_option maxRecDepth 100000 in
theorem vc_X6_law_4 {kd : Nat → Nat} {K : zK} {X : zX} (hX : ∀ (n pc : Nat) (ls : zLS) (st : List zV) (M : zM), zrun (tb_X6_law kd K) [(4, [])] n X pc ls st M → X pc ls st M) {t : Nat} {w : Int32} {c : Int32} {M : zM} (hk0 : kd t = 6) (h : (((6 : Int32) ≤ c) → K (some (zI (w))) M) ∧ ((¬ (6 : Int32) ≤ c) → (zin (kd t) 1 0 c) ∧ X 4 [some (zR t 0), some (zI (w ||| (M.1 t 1 (c).toNatClampNeg))), some (zI (c + 1))] [] M)) : X 4 [some (zR t 0), some (zI (w)), some (zI (c))] [] M := hX 14 4 _ [] M (show (((6 : Int32) ≤ c) → K (some (zI (w))) M) ∧ ((¬ (6 : Int32) ≤ c) → (kd t = 6) ∧ (zin (kd t) 1 0 c) ∧ X 4 [some (zR t 0), some (zI (w ||| (M.1 t 1 (c).toNatClampNeg))), some (zI (c + 1))] [] M) from ⟨fun q => have h := h.1 q; h, fun q => have h := h.2 q; ⟨hk0, ⟨h.1, have h := h.2; h⟩⟩⟩)
def sp_X6_canDo : zSpec := fun kd as M K => match as with
  | [.inr (.inr (.inl (t, 0))), .inl w] => (kd t = 6) ∧ (kd (t + 1) = 3) ∧ ∃ a : Sk, ∃ g : Int, ∃ y : Int, (RpR M t a g y) ∧ (0 ≤ w.toInt ∧ w.toInt ≤ 20) ∧ ∀ v : Int32, (v = zp (tr_may a w.toInt = true)) → K (some (.inl v)) M
  | _ => False
theorem rv_X6_canDo : zrv sp_X6_canDo 6 1 := by
  intro kd as M K h
  unfold sp_X6_canDo at h
  split at h
  · exact ⟨_, _, rfl, h.1⟩
  · exact h.elim
theorem dd_X6_canDo_0 : decode cX6_canDo 0 = .ok (.iload_n 1, 1) := by decide +kernel
theorem dd_X6_canDo_1 : decode cX6_canDo 1 = .ok (.bipush 20, 2) := by decide +kernel
theorem dd_X6_canDo_3 : decode cX6_canDo 3 = .ok (.if_icmp .eq 14, 3) := by decide +kernel
theorem dd_X6_canDo_6 : decode cX6_canDo 6 = .ok (.aload_n 0, 1) := by decide +kernel
theorem dd_X6_canDo_7 : decode cX6_canDo 7 = .ok (.getfield 12, 3) := by decide +kernel
theorem dd_X6_canDo_10 : decode cX6_canDo 10 = .ok (.iload_n 1, 1) := by decide +kernel
theorem dd_X6_canDo_11 : decode cX6_canDo 11 = .ok (.invokevirtual 40, 3) := by decide +kernel
theorem dd_X6_canDo_14 : decode cX6_canDo 14 = .ok (.ifCond .eq 7, 3) := by decide +kernel
theorem dd_X6_canDo_17 : decode cX6_canDo 17 = .ok (.iconst 1, 1) := by decide +kernel
theorem dd_X6_canDo_18 : decode cX6_canDo 18 = .ok (.goto 4, 3) := by decide +kernel
theorem dd_X6_canDo_21 : decode cX6_canDo 21 = .ok (.iconst 0, 1) := by decide +kernel
theorem dd_X6_canDo_22 : decode cX6_canDo 22 = .ok (.ireturn, 1) := by decide +kernel
def tb_X6_canDo (kd : Nat → Nat) (K : zK) : zTab := [(0, zt_iload 1 1), (1, zt_const (zI 20) 3), (3, zt_icmp (fun x y => x = y) (fun x y => ¬ x = y) 17 6), (6, zt_aload 0 7), (7, zt_getR kd 6 1 0 10), (10, zt_iload 1 11), (11, zt_call kd sp_X3_canDo 2 14), (14, zt_if (fun x => x = 0) (fun x => ¬ x = 0) 21 17), (17, zt_const (zI 1) 18), (18, zt_goto 22), (21, zt_const (zI 0) 22), (22, zt_zret K)]
set_option maxRecDepth 20000 in
theorem tk_X6_canDo (d : Nat) (h_X3_canDo : zMS 4 yX3_canDo cX3_canDo 2 (some .boolean) sp_X3_canDo) : zTrue RX6 cX6_canDo 2 (some .boolean) (d + 5) (fun kd K => tb_X6_canDo kd K) := by
  intro p l e R s m args below meth c D cy A ad bl Qm K C0 hr hlocks hQ
  obtain ⟨hx, hb, hml, hown, hts, hK, hD, hA0, hN, hE, ⟨hR1, hR2⟩, hc1, hc2⟩ := id C0
  unfold tb_X6_canDo
  refine List.forall_mem_cons.mpr ⟨ok_iload_n hx hb rfl dd_X6_canDo_0, ?_⟩
  refine List.forall_mem_cons.mpr ⟨ok_bipush hx hb dd_X6_canDo_1 (by decide), ?_⟩
  refine List.forall_mem_cons.mpr ⟨ok_icmp_eq hx hb dd_X6_canDo_3 (by decide), ?_⟩
  refine List.forall_mem_cons.mpr ⟨ok_aload_n hx hb rfl dd_X6_canDo_6, ?_⟩
  refine List.forall_mem_cons.mpr ⟨ok_getR (j := 0) hx hb hts zi_X6 hown hK zc_X6 (by decide) rfl (fun t fl h => by cases h; rfl) (hts _ wd_224) dd_X6_canDo_7, ?_⟩
  refine List.forall_mem_cons.mpr ⟨ok_iload_n hx hb rfl dd_X6_canDo_10, ?_⟩
  refine List.forall_mem_cons.mpr ⟨ok_callVN (n := 1) zc_X3 rv_X3_canDo C0 (h_X3_canDo (d + 4) (by omega)) (by decide) wd_653 nd_650 wd_652 wd_41 wd_102 ⟨by decide +kernel, by decide +kernel, by decide +kernel⟩ dd_X6_canDo_11, ?_⟩
  refine List.forall_mem_cons.mpr ⟨ok_if_eq hx hb dd_X6_canDo_14 (by decide), ?_⟩
  refine List.forall_mem_cons.mpr ⟨ok_iconst hx hb dd_X6_canDo_17 (by decide), ?_⟩
  refine List.forall_mem_cons.mpr ⟨ok_goto hx hb dd_X6_canDo_18 (by decide), ?_⟩
  refine List.forall_mem_cons.mpr ⟨ok_iconst hx hb dd_X6_canDo_21 (by decide), ?_⟩
  refine List.forall_mem_cons.mpr ⟨ok_zret hx hb hr hlocks hQ dd_X6_canDo_22, ?_⟩
  exact fun _ h => absurd h List.not_mem_nil
set_option maxRecDepth 100000 in
theorem vc_X6_canDo_0 {kd : Nat → Nat} {K : zK} {X : zX} (hX : ∀ (n pc : Nat) (ls : zLS) (st : List zV) (M : zM), zrun (tb_X6_canDo kd K) [] n X pc ls st M → X pc ls st M) {t : Nat} {w : Int32} {M : zM} (hk0 : kd (t + 1) = 3) (hk1 : kd t = 6) (h : ((w = (20 : Int32)) → K (some (zI ((1 : Int32)))) M) ∧ ((¬ w = (20 : Int32)) → ∃ a1 : Sk, (RpS (M.1 (t + 1)) a1) ∧ (0 ≤ w.toInt ∧ w.toInt < 20) ∧ ∀ v1 : Int32, (v1 = zp (sk_may a1 w.toInt = true)) → ((v1 = 0) → K (some (zI ((0 : Int32)))) M) ∧ ((¬ v1 = 0) → K (some (zI ((1 : Int32)))) M))) : X 0 [some (zR t 0), some (zI (w))] [] M := hX 12 0 _ [] M (show ((w = (20 : Int32)) → ((1 : Int32) = 0 ∨ (1 : Int32) = 1) ∧ K (some (zI ((1 : Int32)))) M) ∧ ((¬ w = (20 : Int32)) → (kd t = 6) ∧ (kd (t + 1) = 3) ∧ ∃ a1 : Sk, (RpS (M.1 (t + 1)) a1) ∧ (0 ≤ w.toInt ∧ w.toInt < 20) ∧ ∀ v1 : Int32, (v1 = zp (sk_may a1 w.toInt = true)) → ((v1 = 0) → ((0 : Int32) = 0 ∨ (0 : Int32) = 1) ∧ K (some (zI ((0 : Int32)))) M) ∧ ((¬ v1 = 0) → ((1 : Int32) = 0 ∨ (1 : Int32) = 1) ∧ K (some (zI ((1 : Int32)))) M)) from ⟨fun q => have h := h.1 q; ⟨(Or.inr rfl), h⟩, fun q => have h := h.2 q; ⟨hk1, ⟨hk0, h.elim (fun a1 h => ⟨a1, ⟨h.1, have h := h.2; ⟨h.1, have h := h.2; fun v1 => have h := h v1; fun q => have h := h q; ⟨fun q => have h := h.1 q; ⟨(Or.inl rfl), h⟩, fun q => have h := h.2 q; ⟨(Or.inr rfl), h⟩⟩⟩⟩⟩)⟩⟩⟩)
def sp_X6_act : zSpec := fun kd as M K => match as with
  | [.inr (.inr (.inl (t, 0))), .inl w, .inl e] => (kd t = 6) ∧ (kd (t + 1) = 3) ∧ ∃ a : Sk, ∃ g : Int, ∃ y : Int, (RpR M t a g y) ∧ (0 ≤ w.toInt ∧ w.toInt ≤ 20) ∧ (tr_may a w.toInt = true) ∧ (e.toInt = 0 ∨ e.toInt = 1) ∧ ∀ M' : zM, (trF M t M') → (RpR M' t (tr_do a w.toInt g e.toInt) g y) → K none M'
  | _ => False
theorem rv_X6_act : zrv sp_X6_act 6 2 := by
  intro kd as M K h
  unfold sp_X6_act at h
  split at h
  · exact ⟨_, _, rfl, h.1⟩
  · exact h.elim
theorem dd_X6_act_0 : decode cX6_act 0 = .ok (.iload_n 1, 1) := by decide +kernel
theorem dd_X6_act_1 : decode cX6_act 1 = .ok (.invokestatic 44, 3) := by decide +kernel
theorem dd_X6_act_4 : decode cX6_act 4 = .ok (.istore_n 3, 1) := by decide +kernel
theorem dd_X6_act_5 : decode cX6_act 5 = .ok (.iload_n 3, 1) := by decide +kernel
theorem dd_X6_act_6 : decode cX6_act 6 = .ok (.invokestatic 48, 3) := by decide +kernel
theorem dd_X6_act_9 : decode cX6_act 9 = .ok (.ifCond .eq 38, 3) := by decide +kernel
theorem dd_X6_act_12 : decode cX6_act 12 = .ok (.aload_n 0, 1) := by decide +kernel
theorem dd_X6_act_13 : decode cX6_act 13 = .ok (.getfield 12, 3) := by decide +kernel
theorem dd_X6_act_16 : decode cX6_act 16 = .ok (.iload_n 1, 1) := by decide +kernel
theorem dd_X6_act_17 : decode cX6_act 17 = .ok (.aload_n 0, 1) := by decide +kernel
theorem dd_X6_act_18 : decode cX6_act 18 = .ok (.getfield 22, 3) := by decide +kernel
theorem dd_X6_act_21 : decode cX6_act 21 = .ok (.iload_n 2, 1) := by decide +kernel
theorem dd_X6_act_22 : decode cX6_act 22 = .ok (.invokevirtual 51, 3) := by decide +kernel
theorem dd_X6_act_25 : decode cX6_act 25 = .ok (.aload_n 0, 1) := by decide +kernel
theorem dd_X6_act_26 : decode cX6_act 26 = .ok (.getfield 18, 3) := by decide +kernel
theorem dd_X6_act_29 : decode cX6_act 29 = .ok (.iload_n 3, 1) := by decide +kernel
theorem dd_X6_act_30 : decode cX6_act 30 = .ok (.aload_n 0, 1) := by decide +kernel
theorem dd_X6_act_31 : decode cX6_act 31 = .ok (.getfield 12, 3) := by decide +kernel
theorem dd_X6_act_34 : decode cX6_act 34 = .ok (.iload_n 3, 1) := by decide +kernel
theorem dd_X6_act_35 : decode cX6_act 35 = .ok (.aload_n 0, 1) := by decide +kernel
theorem dd_X6_act_36 : decode cX6_act 36 = .ok (.getfield 22, 3) := by decide +kernel
theorem dd_X6_act_39 : decode cX6_act 39 = .ok (.aload_n 0, 1) := by decide +kernel
theorem dd_X6_act_40 : decode cX6_act 40 = .ok (.getfield 26, 3) := by decide +kernel
theorem dd_X6_act_43 : decode cX6_act 43 = .ok (.invokevirtual 36, 3) := by decide +kernel
theorem dd_X6_act_46 : decode cX6_act 46 = .ok (.iastore, 1) := by decide +kernel
theorem dd_X6_act_47 : decode cX6_act 47 = .ok (.return_, 1) := by decide +kernel
def tb_X6_act (kd : Nat → Nat) (K : zK) : zTab := [(0, zt_iload 1 1), (1, zt_call kd sp_X7_cellOf 1 4), (4, zt_istore 3 5), (5, zt_iload 3 6), (6, zt_call kd sp_X7_isCell 1 9), (9, zt_if (fun x => x = 0) (fun x => ¬ x = 0) 47 12), (12, zt_aload 0 13), (13, zt_getR kd 6 1 0 16), (16, zt_iload 1 17), (17, zt_aload 0 18), (18, zt_getI kd 6 2 21), (21, zt_iload 2 22), (22, zt_call kd sp_X3_act 4 25), (25, zt_aload 0 26), (26, zt_getR kd 6 0 1 29), (29, zt_iload 3 30), (30, zt_aload 0 31), (31, zt_getR kd 6 1 0 34), (34, zt_iload 3 35), (35, zt_aload 0 36), (36, zt_getI kd 6 2 39), (39, zt_aload 0 40), (40, zt_getI kd 6 3 43), (43, zt_call kd sp_X3_lawOfCell 4 46), (46, zt_ast kd 0 47), (47, zt_vret K)]
set_option maxRecDepth 20000 in
theorem tk_X6_act (d : Nat) (h_X7_cellOf : zMS 1 yX7_cellOf cX7_cellOf 1 (some .int) sp_X7_cellOf) (h_X7_isCell : zMS 1 yX7_isCell cX7_isCell 1 (some .boolean) sp_X7_isCell) (h_X3_act : zMS 4 yX3_act cX3_act 4 none sp_X3_act) (h_X3_lawOfCell : zMS 4 yX3_lawOfCell cX3_lawOfCell 7 (some .int) sp_X3_lawOfCell) : zTrue RX6 cX6_act 4 none (d + 5) (fun kd K => tb_X6_act kd K) := by
  intro p l e R s m args below meth c D cy A ad bl Qm K C0 hr hlocks hQ
  obtain ⟨hx, hb, hml, hown, hts, hK, hD, hA0, hN, hE, ⟨hR1, hR2⟩, hc1, hc2⟩ := id C0
  unfold tb_X6_act
  refine List.forall_mem_cons.mpr ⟨ok_iload_n hx hb rfl dd_X6_act_0, ?_⟩
  refine List.forall_mem_cons.mpr ⟨ok_callSN (n := 1) C0 (h_X7_cellOf (d + 4) (by omega)) (by decide) wd_390 nd_660 wd_389 wd_100 ⟨by decide +kernel, by decide +kernel, by decide +kernel⟩ dd_X6_act_1, ?_⟩
  refine List.forall_mem_cons.mpr ⟨ok_istore_n hx hb rfl dd_X6_act_4, ?_⟩
  refine List.forall_mem_cons.mpr ⟨ok_iload_n hx hb rfl dd_X6_act_5, ?_⟩
  refine List.forall_mem_cons.mpr ⟨ok_callSN (n := 1) C0 (h_X7_isCell (d + 4) (by omega)) (by decide) wd_318 nd_661 wd_317 wd_100 ⟨by decide +kernel, by decide +kernel, by decide +kernel⟩ dd_X6_act_6, ?_⟩
  refine List.forall_mem_cons.mpr ⟨ok_if_eq hx hb dd_X6_act_9 (by decide), ?_⟩
  refine List.forall_mem_cons.mpr ⟨ok_aload_n hx hb rfl dd_X6_act_12, ?_⟩
  refine List.forall_mem_cons.mpr ⟨ok_getR (j := 0) hx hb hts zi_X6 hown hK zc_X6 (by decide) rfl (fun t fl h => by cases h; rfl) (hts _ wd_224) dd_X6_act_13, ?_⟩
  refine List.forall_mem_cons.mpr ⟨ok_iload_n hx hb rfl dd_X6_act_16, ?_⟩
  refine List.forall_mem_cons.mpr ⟨ok_aload_n hx hb rfl dd_X6_act_17, ?_⟩
  refine List.forall_mem_cons.mpr ⟨ok_getI (j := 2) hx hb hts zi_X6 hown hK zc_X6 (by decide) rfl (fun t fl h => by cases h; rfl) (hts _ wd_226) dd_X6_act_18, ?_⟩
  refine List.forall_mem_cons.mpr ⟨ok_iload_n hx hb rfl dd_X6_act_21, ?_⟩
  refine List.forall_mem_cons.mpr ⟨ok_callVN (n := 3) zc_X3 rv_X3_act C0 (h_X3_act (d + 4) (by omega)) (by decide) wd_665 nd_662 wd_664 wd_43 wd_102 ⟨by decide +kernel, by decide +kernel, by decide +kernel⟩ dd_X6_act_22, ?_⟩
  refine List.forall_mem_cons.mpr ⟨ok_aload_n hx hb rfl dd_X6_act_25, ?_⟩
  refine List.forall_mem_cons.mpr ⟨ok_getR (j := 1) hx hb hts zi_X6 hown hK zc_X6 (by decide) rfl (fun t fl h => by cases h; rfl) (hts _ wd_225) dd_X6_act_26, ?_⟩
  refine List.forall_mem_cons.mpr ⟨ok_iload_n hx hb rfl dd_X6_act_29, ?_⟩
  refine List.forall_mem_cons.mpr ⟨ok_aload_n hx hb rfl dd_X6_act_30, ?_⟩
  refine List.forall_mem_cons.mpr ⟨ok_getR (j := 0) hx hb hts zi_X6 hown hK zc_X6 (by decide) rfl (fun t fl h => by cases h; rfl) (hts _ wd_224) dd_X6_act_31, ?_⟩
  refine List.forall_mem_cons.mpr ⟨ok_iload_n hx hb rfl dd_X6_act_34, ?_⟩
  refine List.forall_mem_cons.mpr ⟨ok_aload_n hx hb rfl dd_X6_act_35, ?_⟩
  refine List.forall_mem_cons.mpr ⟨ok_getI (j := 2) hx hb hts zi_X6 hown hK zc_X6 (by decide) rfl (fun t fl h => by cases h; rfl) (hts _ wd_226) dd_X6_act_36, ?_⟩
  refine List.forall_mem_cons.mpr ⟨ok_aload_n hx hb rfl dd_X6_act_39, ?_⟩
  refine List.forall_mem_cons.mpr ⟨ok_getI (j := 3) hx hb hts zi_X6 hown hK zc_X6 (by decide) rfl (fun t fl h => by cases h; rfl) (hts _ wd_227) dd_X6_act_40, ?_⟩
  refine List.forall_mem_cons.mpr ⟨ok_callVN (n := 3) zc_X3 rv_X3_lawOfCell C0 (h_X3_lawOfCell (d + 4) (by omega)) (by decide) wd_582 nd_641 wd_581 wd_30 wd_102 ⟨by decide +kernel, by decide +kernel, by decide +kernel⟩ dd_X6_act_43, ?_⟩
  refine List.forall_mem_cons.mpr ⟨ok_ast (ty := 0) rfl hx hb hK hD (Or.inl ⟨rfl, rfl, dd_X6_act_46⟩), ?_⟩
  refine List.forall_mem_cons.mpr ⟨ok_vret hx hb hr hlocks hQ dd_X6_act_47, ?_⟩
  exact fun _ h => absurd h List.not_mem_nil
set_option maxRecDepth 100000 in
theorem vc_X6_act_0 {kd : Nat → Nat} {K : zK} {X : zX} (hX : ∀ (n pc : Nat) (ls : zLS) (st : List zV) (M : zM), zrun (tb_X6_act kd K) [] n X pc ls st M → X pc ls st M) {t : Nat} {w : Int32} {e : Int32} {M : zM} (hk0 : kd (t + 1) = 3) (hk1 : kd t = 6) (h : ∀ v1 : Int32, (v1 = if w < 10 then w else w - 10) → ∀ v2 : Int32, (v2 = zp (0 ≤ v1.toInt ∧ v1.toInt < 6)) → ((v2 = 0) → K none M) ∧ ((¬ v2 = 0) → ∃ a3 : Sk, (RpS (M.1 (t + 1)) a3) ∧ (0 ≤ w.toInt ∧ w.toInt < 20) ∧ (sk_may a3 w.toInt = true) ∧ (0 ≤ (M.1 t 0 2).toInt ∧ (M.1 t 0 2).toInt ≤ 4) ∧ (e.toInt = 0 ∨ e.toInt = 1) ∧ ∀ S3 : zB, (RpS S3 (sk_do a3 w.toInt (M.1 t 0 2).toInt e.toInt)) → ∀ M3 : zM, (M3 = zbs M (t + 1) S3) → ∃ a4 : Sk, (RpS (M3.1 (t + 1)) a4) ∧ (0 ≤ v1.toInt ∧ v1.toInt < 6) ∧ (0 ≤ (M3.1 t 0 3).toInt ∧ (M3.1 t 0 3).toInt < 1000000) ∧ ∀ v4 : Int32, (v4.toInt = sk_lawC a4 v1.toInt (M3.1 t 0 2).toInt (M3.1 t 0 3).toInt) → (zin (kd t) 1 0 v1) ∧ ∀ M5 : zM, (M5 = zmw M3 t 1 (upd (M3.1 t 1) (v1).toNatClampNeg v4)) → K none M5)) : X 0 [some (zR t 0), some (zI (w)), some (zI (e)), none] [] M := hX 27 0 _ [] M (show ∀ v1 : Int32, (v1 = if w < 10 then w else w - 10) → ∀ v2 : Int32, (v2 = zp (0 ≤ v1.toInt ∧ v1.toInt < 6)) → ((v2 = 0) → K none M) ∧ ((¬ v2 = 0) → (kd t = 6) ∧ (kd t = 6) ∧ (kd (t + 1) = 3) ∧ ∃ a3 : Sk, (RpS (M.1 (t + 1)) a3) ∧ (0 ≤ w.toInt ∧ w.toInt < 20) ∧ (sk_may a3 w.toInt = true) ∧ (0 ≤ (M.1 t 0 2).toInt ∧ (M.1 t 0 2).toInt ≤ 4) ∧ (e.toInt = 0 ∨ e.toInt = 1) ∧ ∀ S3 : zB, (RpS S3 (sk_do a3 w.toInt (M.1 t 0 2).toInt e.toInt)) → ∀ M3 : zM, (M3 = zbs M (t + 1) S3) → (kd t = 6) ∧ (kd t = 6) ∧ (kd t = 6) ∧ (kd t = 6) ∧ (kd (t + 1) = 3) ∧ ∃ a4 : Sk, (RpS (M3.1 (t + 1)) a4) ∧ (0 ≤ v1.toInt ∧ v1.toInt < 6) ∧ (0 ≤ (M3.1 t 0 3).toInt ∧ (M3.1 t 0 3).toInt < 1000000) ∧ ∀ v4 : Int32, (v4.toInt = sk_lawC a4 v1.toInt (M3.1 t 0 2).toInt (M3.1 t 0 3).toInt) → (zin (kd t) 1 0 v1) ∧ ∀ M5 : zM, (M5 = zmw M3 t 1 (upd (M3.1 t 1) (v1).toNatClampNeg v4)) → K none M5) from fun v1 => have h := h v1; fun q => have h := h q; fun v2 => have h := h v2; fun q => have h := h q; ⟨fun q => have h := h.1 q; h, fun q => have h := h.2 q; ⟨hk1, ⟨hk1, ⟨hk0, h.elim (fun a3 h => ⟨a3, ⟨h.1, have h := h.2; ⟨h.1, have h := h.2; ⟨h.1, have h := h.2; ⟨h.1, have h := h.2; ⟨h.1, have h := h.2; fun S3 => have h := h S3; fun q => have h := h q; fun M3 => have h := h M3; fun q => have h := h q; ⟨hk1, ⟨hk1, ⟨hk1, ⟨hk1, ⟨hk0, h.elim (fun a4 h => ⟨a4, ⟨h.1, have h := h.2; ⟨h.1, have h := h.2; ⟨h.1, have h := h.2; fun v4 => have h := h v4; fun q => have h := h q; ⟨h.1, have h := h.2; fun M5 => have h := h M5; fun q => have h := h q; h⟩⟩⟩⟩⟩)⟩⟩⟩⟩⟩⟩⟩⟩⟩⟩⟩)⟩⟩⟩⟩)
def sp_X6_takeBack : zSpec := fun kd as M K => match as with
  | [.inr (.inr (.inl (t, 0))), .inl w] => (kd t = 6) ∧ (kd (t + 1) = 3) ∧ ∃ a : Sk, ∃ g : Int, ∃ y : Int, (RpR M t a g y) ∧ ∃ b : Sk, (okSk b) ∧ (0 ≤ w.toInt ∧ w.toInt ≤ 20) ∧ (tr_aft b w.toInt a) ∧ ∀ M' : zM, (trF M t M') → (RpR M' t (b) g y) → K none M'
  | _ => False
theorem rv_X6_takeBack : zrv sp_X6_takeBack 6 1 := by
  intro kd as M K h
  unfold sp_X6_takeBack at h
  split at h
  · exact ⟨_, _, rfl, h.1⟩
  · exact h.elim
theorem dd_X6_takeBack_0 : decode cX6_takeBack 0 = .ok (.iload_n 1, 1) := by decide +kernel
theorem dd_X6_takeBack_1 : decode cX6_takeBack 1 = .ok (.invokestatic 44, 3) := by decide +kernel
theorem dd_X6_takeBack_4 : decode cX6_takeBack 4 = .ok (.istore_n 2, 1) := by decide +kernel
theorem dd_X6_takeBack_5 : decode cX6_takeBack 5 = .ok (.iload_n 2, 1) := by decide +kernel
theorem dd_X6_takeBack_6 : decode cX6_takeBack 6 = .ok (.invokestatic 48, 3) := by decide +kernel
theorem dd_X6_takeBack_9 : decode cX6_takeBack 9 = .ok (.ifCond .eq 33, 3) := by decide +kernel
theorem dd_X6_takeBack_12 : decode cX6_takeBack 12 = .ok (.aload_n 0, 1) := by decide +kernel
theorem dd_X6_takeBack_13 : decode cX6_takeBack 13 = .ok (.getfield 12, 3) := by decide +kernel
theorem dd_X6_takeBack_16 : decode cX6_takeBack 16 = .ok (.iload_n 1, 1) := by decide +kernel
theorem dd_X6_takeBack_17 : decode cX6_takeBack 17 = .ok (.invokevirtual 55, 3) := by decide +kernel
theorem dd_X6_takeBack_20 : decode cX6_takeBack 20 = .ok (.aload_n 0, 1) := by decide +kernel
theorem dd_X6_takeBack_21 : decode cX6_takeBack 21 = .ok (.getfield 18, 3) := by decide +kernel
theorem dd_X6_takeBack_24 : decode cX6_takeBack 24 = .ok (.iload_n 2, 1) := by decide +kernel
theorem dd_X6_takeBack_25 : decode cX6_takeBack 25 = .ok (.aload_n 0, 1) := by decide +kernel
theorem dd_X6_takeBack_26 : decode cX6_takeBack 26 = .ok (.getfield 12, 3) := by decide +kernel
theorem dd_X6_takeBack_29 : decode cX6_takeBack 29 = .ok (.iload_n 2, 1) := by decide +kernel
theorem dd_X6_takeBack_30 : decode cX6_takeBack 30 = .ok (.aload_n 0, 1) := by decide +kernel
theorem dd_X6_takeBack_31 : decode cX6_takeBack 31 = .ok (.getfield 22, 3) := by decide +kernel
theorem dd_X6_takeBack_34 : decode cX6_takeBack 34 = .ok (.aload_n 0, 1) := by decide +kernel
theorem dd_X6_takeBack_35 : decode cX6_takeBack 35 = .ok (.getfield 26, 3) := by decide +kernel
theorem dd_X6_takeBack_38 : decode cX6_takeBack 38 = .ok (.invokevirtual 36, 3) := by decide +kernel
theorem dd_X6_takeBack_41 : decode cX6_takeBack 41 = .ok (.iastore, 1) := by decide +kernel
theorem dd_X6_takeBack_42 : decode cX6_takeBack 42 = .ok (.return_, 1) := by decide +kernel
def tb_X6_takeBack (kd : Nat → Nat) (K : zK) : zTab := [(0, zt_iload 1 1), (1, zt_call kd sp_X7_cellOf 1 4), (4, zt_istore 2 5), (5, zt_iload 2 6), (6, zt_call kd sp_X7_isCell 1 9), (9, zt_if (fun x => x = 0) (fun x => ¬ x = 0) 42 12), (12, zt_aload 0 13), (13, zt_getR kd 6 1 0 16), (16, zt_iload 1 17), (17, zt_call kd sp_X3_takeBack 2 20), (20, zt_aload 0 21), (21, zt_getR kd 6 0 1 24), (24, zt_iload 2 25), (25, zt_aload 0 26), (26, zt_getR kd 6 1 0 29), (29, zt_iload 2 30), (30, zt_aload 0 31), (31, zt_getI kd 6 2 34), (34, zt_aload 0 35), (35, zt_getI kd 6 3 38), (38, zt_call kd sp_X3_lawOfCell 4 41), (41, zt_ast kd 0 42), (42, zt_vret K)]
set_option maxRecDepth 20000 in
theorem tk_X6_takeBack (d : Nat) (h_X7_cellOf : zMS 1 yX7_cellOf cX7_cellOf 1 (some .int) sp_X7_cellOf) (h_X7_isCell : zMS 1 yX7_isCell cX7_isCell 1 (some .boolean) sp_X7_isCell) (h_X3_takeBack : zMS 3 yX3_takeBack cX3_takeBack 4 none sp_X3_takeBack) (h_X3_lawOfCell : zMS 4 yX3_lawOfCell cX3_lawOfCell 7 (some .int) sp_X3_lawOfCell) : zTrue RX6 cX6_takeBack 3 none (d + 5) (fun kd K => tb_X6_takeBack kd K) := by
  intro p l e R s m args below meth c D cy A ad bl Qm K C0 hr hlocks hQ
  obtain ⟨hx, hb, hml, hown, hts, hK, hD, hA0, hN, hE, ⟨hR1, hR2⟩, hc1, hc2⟩ := id C0
  unfold tb_X6_takeBack
  refine List.forall_mem_cons.mpr ⟨ok_iload_n hx hb rfl dd_X6_takeBack_0, ?_⟩
  refine List.forall_mem_cons.mpr ⟨ok_callSN (n := 1) C0 (h_X7_cellOf (d + 4) (by omega)) (by decide) wd_390 nd_660 wd_389 wd_100 ⟨by decide +kernel, by decide +kernel, by decide +kernel⟩ dd_X6_takeBack_1, ?_⟩
  refine List.forall_mem_cons.mpr ⟨ok_istore_n hx hb rfl dd_X6_takeBack_4, ?_⟩
  refine List.forall_mem_cons.mpr ⟨ok_iload_n hx hb rfl dd_X6_takeBack_5, ?_⟩
  refine List.forall_mem_cons.mpr ⟨ok_callSN (n := 1) C0 (h_X7_isCell (d + 4) (by omega)) (by decide) wd_318 nd_661 wd_317 wd_100 ⟨by decide +kernel, by decide +kernel, by decide +kernel⟩ dd_X6_takeBack_6, ?_⟩
  refine List.forall_mem_cons.mpr ⟨ok_if_eq hx hb dd_X6_takeBack_9 (by decide), ?_⟩
  refine List.forall_mem_cons.mpr ⟨ok_aload_n hx hb rfl dd_X6_takeBack_12, ?_⟩
  refine List.forall_mem_cons.mpr ⟨ok_getR (j := 0) hx hb hts zi_X6 hown hK zc_X6 (by decide) rfl (fun t fl h => by cases h; rfl) (hts _ wd_224) dd_X6_takeBack_13, ?_⟩
  refine List.forall_mem_cons.mpr ⟨ok_iload_n hx hb rfl dd_X6_takeBack_16, ?_⟩
  refine List.forall_mem_cons.mpr ⟨ok_callVN (n := 1) zc_X3 rv_X3_takeBack C0 (h_X3_takeBack (d + 4) (by omega)) (by decide) wd_387 nd_674 wd_386 wd_13 wd_102 ⟨by decide +kernel, by decide +kernel, by decide +kernel⟩ dd_X6_takeBack_17, ?_⟩
  refine List.forall_mem_cons.mpr ⟨ok_aload_n hx hb rfl dd_X6_takeBack_20, ?_⟩
  refine List.forall_mem_cons.mpr ⟨ok_getR (j := 1) hx hb hts zi_X6 hown hK zc_X6 (by decide) rfl (fun t fl h => by cases h; rfl) (hts _ wd_225) dd_X6_takeBack_21, ?_⟩
  refine List.forall_mem_cons.mpr ⟨ok_iload_n hx hb rfl dd_X6_takeBack_24, ?_⟩
  refine List.forall_mem_cons.mpr ⟨ok_aload_n hx hb rfl dd_X6_takeBack_25, ?_⟩
  refine List.forall_mem_cons.mpr ⟨ok_getR (j := 0) hx hb hts zi_X6 hown hK zc_X6 (by decide) rfl (fun t fl h => by cases h; rfl) (hts _ wd_224) dd_X6_takeBack_26, ?_⟩
  refine List.forall_mem_cons.mpr ⟨ok_iload_n hx hb rfl dd_X6_takeBack_29, ?_⟩
  refine List.forall_mem_cons.mpr ⟨ok_aload_n hx hb rfl dd_X6_takeBack_30, ?_⟩
  refine List.forall_mem_cons.mpr ⟨ok_getI (j := 2) hx hb hts zi_X6 hown hK zc_X6 (by decide) rfl (fun t fl h => by cases h; rfl) (hts _ wd_226) dd_X6_takeBack_31, ?_⟩
  refine List.forall_mem_cons.mpr ⟨ok_aload_n hx hb rfl dd_X6_takeBack_34, ?_⟩
  refine List.forall_mem_cons.mpr ⟨ok_getI (j := 3) hx hb hts zi_X6 hown hK zc_X6 (by decide) rfl (fun t fl h => by cases h; rfl) (hts _ wd_227) dd_X6_takeBack_35, ?_⟩
  refine List.forall_mem_cons.mpr ⟨ok_callVN (n := 3) zc_X3 rv_X3_lawOfCell C0 (h_X3_lawOfCell (d + 4) (by omega)) (by decide) wd_582 nd_641 wd_581 wd_30 wd_102 ⟨by decide +kernel, by decide +kernel, by decide +kernel⟩ dd_X6_takeBack_38, ?_⟩
  refine List.forall_mem_cons.mpr ⟨ok_ast (ty := 0) rfl hx hb hK hD (Or.inl ⟨rfl, rfl, dd_X6_takeBack_41⟩), ?_⟩
  refine List.forall_mem_cons.mpr ⟨ok_vret hx hb hr hlocks hQ dd_X6_takeBack_42, ?_⟩
  exact fun _ h => absurd h List.not_mem_nil
set_option maxRecDepth 100000 in
theorem vc_X6_takeBack_0 {kd : Nat → Nat} {K : zK} {X : zX} (hX : ∀ (n pc : Nat) (ls : zLS) (st : List zV) (M : zM), zrun (tb_X6_takeBack kd K) [] n X pc ls st M → X pc ls st M) {t : Nat} {w : Int32} {M : zM} (hk0 : kd (t + 1) = 3) (hk1 : kd t = 6) (h : ∀ v1 : Int32, (v1 = if w < 10 then w else w - 10) → ∀ v2 : Int32, (v2 = zp (0 ≤ v1.toInt ∧ v1.toInt < 6)) → ((v2 = 0) → K none M) ∧ ((¬ v2 = 0) → ∃ a3 : Sk, (RpS (M.1 (t + 1)) a3) ∧ ∃ b3 : Sk, (okSk b3) ∧ (0 ≤ w.toInt ∧ w.toInt < 20) ∧ (sk_aft b3 w.toInt a3) ∧ ∀ S3 : zB, (RpS S3 (b3)) → ∀ M3 : zM, (M3 = zbs M (t + 1) S3) → ∃ a4 : Sk, (RpS (M3.1 (t + 1)) a4) ∧ (0 ≤ v1.toInt ∧ v1.toInt < 6) ∧ (0 ≤ (M3.1 t 0 3).toInt ∧ (M3.1 t 0 3).toInt < 1000000) ∧ ∀ v4 : Int32, (v4.toInt = sk_lawC a4 v1.toInt (M3.1 t 0 2).toInt (M3.1 t 0 3).toInt) → (zin (kd t) 1 0 v1) ∧ ∀ M5 : zM, (M5 = zmw M3 t 1 (upd (M3.1 t 1) (v1).toNatClampNeg v4)) → K none M5)) : X 0 [some (zR t 0), some (zI (w)), none] [] M := hX 24 0 _ [] M (show ∀ v1 : Int32, (v1 = if w < 10 then w else w - 10) → ∀ v2 : Int32, (v2 = zp (0 ≤ v1.toInt ∧ v1.toInt < 6)) → ((v2 = 0) → K none M) ∧ ((¬ v2 = 0) → (kd t = 6) ∧ (kd (t + 1) = 3) ∧ ∃ a3 : Sk, (RpS (M.1 (t + 1)) a3) ∧ ∃ b3 : Sk, (okSk b3) ∧ (0 ≤ w.toInt ∧ w.toInt < 20) ∧ (sk_aft b3 w.toInt a3) ∧ ∀ S3 : zB, (RpS S3 (b3)) → ∀ M3 : zM, (M3 = zbs M (t + 1) S3) → (kd t = 6) ∧ (kd t = 6) ∧ (kd t = 6) ∧ (kd t = 6) ∧ (kd (t + 1) = 3) ∧ ∃ a4 : Sk, (RpS (M3.1 (t + 1)) a4) ∧ (0 ≤ v1.toInt ∧ v1.toInt < 6) ∧ (0 ≤ (M3.1 t 0 3).toInt ∧ (M3.1 t 0 3).toInt < 1000000) ∧ ∀ v4 : Int32, (v4.toInt = sk_lawC a4 v1.toInt (M3.1 t 0 2).toInt (M3.1 t 0 3).toInt) → (zin (kd t) 1 0 v1) ∧ ∀ M5 : zM, (M5 = zmw M3 t 1 (upd (M3.1 t 1) (v1).toNatClampNeg v4)) → K none M5) from fun v1 => have h := h v1; fun q => have h := h q; fun v2 => have h := h v2; fun q => have h := h q; ⟨fun q => have h := h.1 q; h, fun q => have h := h.2 q; ⟨hk1, ⟨hk0, h.elim (fun a3 h => ⟨a3, ⟨h.1, have h := h.2; h.elim (fun b3 h => ⟨b3, ⟨h.1, have h := h.2; ⟨h.1, have h := h.2; ⟨h.1, have h := h.2; fun S3 => have h := h S3; fun q => have h := h q; fun M3 => have h := h M3; fun q => have h := h q; ⟨hk1, ⟨hk1, ⟨hk1, ⟨hk1, ⟨hk0, h.elim (fun a4 h => ⟨a4, ⟨h.1, have h := h.2; ⟨h.1, have h := h.2; ⟨h.1, have h := h.2; fun v4 => have h := h v4; fun q => have h := h q; ⟨h.1, have h := h.2; fun M5 => have h := h M5; fun q => have h := h q; h⟩⟩⟩⟩⟩)⟩⟩⟩⟩⟩⟩⟩⟩⟩)⟩⟩)⟩⟩⟩)
def sp_X6_worthOfLaw : zSpec := fun kd as M K => match as with
  | [.inr (.inr (.inl (t, 0)))] => (kd t = 6) ∧ (kd (t + 1) = 3) ∧ ∃ a : Sk, ∃ g : Int, ∃ y : Int, (RpR M t a g y) ∧ ∀ v : Int32, (v.toInt = wlaw (sk_law a g y)) → K (some (.inl v)) M
  | _ => False
theorem rv_X6_worthOfLaw : zrv sp_X6_worthOfLaw 6 0 := by
  intro kd as M K h
  unfold sp_X6_worthOfLaw at h
  split at h
  · exact ⟨_, _, rfl, h.1⟩
  · exact h.elim
theorem dd_X6_worthOfLaw_0 : decode cX6_worthOfLaw 0 = .ok (.aload_n 0, 1) := by decide +kernel
theorem dd_X6_worthOfLaw_1 : decode cX6_worthOfLaw 1 = .ok (.invokevirtual 62, 3) := by decide +kernel
theorem dd_X6_worthOfLaw_4 : decode cX6_worthOfLaw 4 = .ok (.lookupswitch 32 #[(1, 28), (2, 30)], 28) := by decide +kernel
theorem dd_X6_worthOfLaw_32 : decode cX6_worthOfLaw 32 = .ok (.iconst 2, 1) := by decide +kernel
theorem dd_X6_worthOfLaw_33 : decode cX6_worthOfLaw 33 = .ok (.ireturn, 1) := by decide +kernel
theorem dd_X6_worthOfLaw_34 : decode cX6_worthOfLaw 34 = .ok (.iconst 0, 1) := by decide +kernel
theorem dd_X6_worthOfLaw_35 : decode cX6_worthOfLaw 35 = .ok (.ireturn, 1) := by decide +kernel
theorem dd_X6_worthOfLaw_36 : decode cX6_worthOfLaw 36 = .ok (.iconst 1, 1) := by decide +kernel
theorem dd_X6_worthOfLaw_37 : decode cX6_worthOfLaw 37 = .ok (.ireturn, 1) := by decide +kernel
def tb_X6_worthOfLaw (kd : Nat → Nat) (K : zK) : zTab := [(0, zt_aload 0 1), (1, zt_call kd sp_X6_law 1 4), (4, zt_sw [(1, 32), (2, 34)] 36), (32, zt_const (zI 2) 33), (33, zt_iret K), (34, zt_const (zI 0) 35), (35, zt_iret K), (36, zt_const (zI 1) 37), (37, zt_iret K)]
set_option maxRecDepth 20000 in
theorem tk_X6_worthOfLaw (d : Nat) (h_X6_law : zMS 1 yX6_law cX6_law 3 (some .int) sp_X6_law) : zTrue RX6 cX6_worthOfLaw 1 (some .int) (d + 2) (fun kd K => tb_X6_worthOfLaw kd K) := by
  intro p l e R s m args below meth c D cy A ad bl Qm K C0 hr hlocks hQ
  obtain ⟨hx, hb, hml, hown, hts, hK, hD, hA0, hN, hE, ⟨hR1, hR2⟩, hc1, hc2⟩ := id C0
  unfold tb_X6_worthOfLaw
  refine List.forall_mem_cons.mpr ⟨ok_aload_n hx hb rfl dd_X6_worthOfLaw_0, ?_⟩
  refine List.forall_mem_cons.mpr ⟨ok_callV (n := 0) zc_X6 rv_X6_law C0 (h_X6_law (d + 1) (by omega)) (by decide) wd_645 wd_668 wd_644 wd_39 wd_105 ⟨rfl, by decide +kernel, by decide +kernel, by decide +kernel⟩ dd_X6_worthOfLaw_1, ?_⟩
  refine List.forall_mem_cons.mpr ⟨ok_lsw hx hb dd_X6_worthOfLaw_4 (by decide) (by decide) (by decide), ?_⟩
  refine List.forall_mem_cons.mpr ⟨ok_iconst hx hb dd_X6_worthOfLaw_32 (by decide), ?_⟩
  refine List.forall_mem_cons.mpr ⟨ok_iret hx hb hr hlocks hQ dd_X6_worthOfLaw_33, ?_⟩
  refine List.forall_mem_cons.mpr ⟨ok_iconst hx hb dd_X6_worthOfLaw_34 (by decide), ?_⟩
  refine List.forall_mem_cons.mpr ⟨ok_iret hx hb hr hlocks hQ dd_X6_worthOfLaw_35, ?_⟩
  refine List.forall_mem_cons.mpr ⟨ok_iconst hx hb dd_X6_worthOfLaw_36 (by decide), ?_⟩
  refine List.forall_mem_cons.mpr ⟨ok_iret hx hb hr hlocks hQ dd_X6_worthOfLaw_37, ?_⟩
  exact fun _ h => absurd h List.not_mem_nil
set_option maxRecDepth 100000 in
theorem vc_X6_worthOfLaw_0 {kd : Nat → Nat} {K : zK} {X : zX} (hX : ∀ (n pc : Nat) (ls : zLS) (st : List zV) (M : zM), zrun (tb_X6_worthOfLaw kd K) [] n X pc ls st M → X pc ls st M) {t : Nat} {M : zM} (hk0 : kd (t + 1) = 3) (hk1 : kd t = 6) (h : ∃ a1 : Sk, ∃ g1 : Int, ∃ y1 : Int, (RpR M t a1 g1 y1) ∧ ∀ v1 : Int32, (v1.toInt = sk_law a1 g1 y1) → ((v1 = 1) → K (some (zI ((2 : Int32)))) M) ∧ ((¬ v1 = 1) → ((v1 = 2) → K (some (zI ((0 : Int32)))) M) ∧ ((¬ v1 = 2) → K (some (zI ((1 : Int32)))) M))) : X 0 [some (zR t 0)] [] M := hX 6 0 _ [] M (show (kd t = 6) ∧ (kd (t + 1) = 3) ∧ ∃ a1 : Sk, ∃ g1 : Int, ∃ y1 : Int, (RpR M t a1 g1 y1) ∧ ∀ v1 : Int32, (v1.toInt = sk_law a1 g1 y1) → ((v1 = 1) → K (some (zI ((2 : Int32)))) M) ∧ ((¬ v1 = 1) → ((v1 = 2) → K (some (zI ((0 : Int32)))) M) ∧ ((¬ v1 = 2) → K (some (zI ((1 : Int32)))) M)) from ⟨hk1, ⟨hk0, h.elim (fun a1 h => ⟨a1, h.elim (fun g1 h => ⟨g1, h.elim (fun y1 h => ⟨y1, ⟨h.1, have h := h.2; fun v1 => have h := h v1; fun q => have h := h q; ⟨fun q => have h := h.1 q; h, fun q => have h := h.2 q; ⟨fun q => have h := h.1 q; h, fun q => have h := h.2 q; h⟩⟩⟩⟩)⟩)⟩)⟩⟩)
def sp_X6_firstOfRow (m : Nat) : zSpec := fun kd as M K => match as with
  | [.inr (.inr (.inl (t, 0))), .inl q, .inl n] => (kd t = 6) ∧ (kd (t + 1) = 3) ∧ ∃ a : Sk, ∃ g : Int, ∃ y : Int, (RpR M t a g y) ∧ (n.toInt = Int.ofNat m) ∧ (m = 1 ∨ m = 2) ∧ (q.toInt = 1 ∨ q.toInt = 2) ∧ ∀ v : Int32, (isFst (fun w => sk_may a w && rowOk g y q.toInt (m - 1) (sk_do a w g (le12 q.toInt))) 20 v.toInt) → ∀ M' : zM, (trF M t M') → (RpR M' t (a) g y) → K (some (.inl v)) M'
  | _ => False
def spa_X6_firstOfRow : zSpec := fun kd as M K => match as with
  | [.inr (.inr (.inl (t, 0))), .inl q, .inl n] => (kd t = 6) ∧ (kd (t + 1) = 3) ∧ ∃ a : Sk, ∃ g : Int, ∃ y : Int, (RpR M t a g y) ∧ (n.toInt = 1 ∨ n.toInt = 2) ∧ (q.toInt = 1 ∨ q.toInt = 2) ∧ ∀ v : Int32, (isFst (fun w => sk_may a w && rowOk g y q.toInt (n.toInt.toNat - 1) (sk_do a w g (le12 q.toInt))) 20 v.toInt) → ∀ M' : zM, (trF M t M') → (RpR M' t (a) g y) → K (some (.inl v)) M'
  | _ => False
theorem rva_X6_firstOfRow : zrv spa_X6_firstOfRow 6 2 := by
  intro kd as M K h
  unfold spa_X6_firstOfRow at h
  split at h
  · exact ⟨_, _, rfl, h.1⟩
  · exact h.elim
theorem rv_X6_firstOfRow (m : Nat) : zrv (sp_X6_firstOfRow m) 6 2 := by
  intro kd as M K h
  unfold sp_X6_firstOfRow at h
  split at h
  · exact ⟨_, _, rfl, h.1⟩
  · exact h.elim
theorem dd_X6_firstOfRow_0 : decode cX6_firstOfRow 0 = .ok (.iload_n 2, 1) := by decide +kernel
theorem dd_X6_firstOfRow_1 : decode cX6_firstOfRow 1 = .ok (.iconst 1, 1) := by decide +kernel
theorem dd_X6_firstOfRow_2 : decode cX6_firstOfRow 2 = .ok (.if_icmp .lt 8, 3) := by decide +kernel
theorem dd_X6_firstOfRow_5 : decode cX6_firstOfRow 5 = .ok (.iload_n 2, 1) := by decide +kernel
theorem dd_X6_firstOfRow_6 : decode cX6_firstOfRow 6 = .ok (.iconst 2, 1) := by decide +kernel
theorem dd_X6_firstOfRow_7 : decode cX6_firstOfRow 7 = .ok (.if_icmp .le 5, 3) := by decide +kernel
theorem dd_X6_firstOfRow_10 : decode cX6_firstOfRow 10 = .ok (.iconst (-1), 1) := by decide +kernel
theorem dd_X6_firstOfRow_11 : decode cX6_firstOfRow 11 = .ok (.ireturn, 1) := by decide +kernel
theorem dd_X6_firstOfRow_12 : decode cX6_firstOfRow 12 = .ok (.iconst 0, 1) := by decide +kernel
theorem dd_X6_firstOfRow_13 : decode cX6_firstOfRow 13 = .ok (.istore_n 3, 1) := by decide +kernel
theorem dd_X6_firstOfRow_14 : decode cX6_firstOfRow 14 = .ok (.iload_n 3, 1) := by decide +kernel
theorem dd_X6_firstOfRow_15 : decode cX6_firstOfRow 15 = .ok (.bipush 20, 2) := by decide +kernel
theorem dd_X6_firstOfRow_17 : decode cX6_firstOfRow 17 = .ok (.if_icmp .ge 90, 3) := by decide +kernel
theorem dd_X6_firstOfRow_20 : decode cX6_firstOfRow 20 = .ok (.aload_n 0, 1) := by decide +kernel
theorem dd_X6_firstOfRow_21 : decode cX6_firstOfRow 21 = .ok (.getfield 12, 3) := by decide +kernel
theorem dd_X6_firstOfRow_24 : decode cX6_firstOfRow 24 = .ok (.iload_n 3, 1) := by decide +kernel
theorem dd_X6_firstOfRow_25 : decode cX6_firstOfRow 25 = .ok (.invokevirtual 40, 3) := by decide +kernel
theorem dd_X6_firstOfRow_28 : decode cX6_firstOfRow 28 = .ok (.ifCond .ne 6, 3) := by decide +kernel
theorem dd_X6_firstOfRow_31 : decode cX6_firstOfRow 31 = .ok (.goto 70, 3) := by decide +kernel
theorem dd_X6_firstOfRow_34 : decode cX6_firstOfRow 34 = .ok (.aload_n 0, 1) := by decide +kernel
theorem dd_X6_firstOfRow_35 : decode cX6_firstOfRow 35 = .ok (.iload_n 3, 1) := by decide +kernel
theorem dd_X6_firstOfRow_36 : decode cX6_firstOfRow 36 = .ok (.iload_n 1, 1) := by decide +kernel
theorem dd_X6_firstOfRow_37 : decode cX6_firstOfRow 37 = .ok (.iconst 1, 1) := by decide +kernel
theorem dd_X6_firstOfRow_38 : decode cX6_firstOfRow 38 = .ok (.if_icmp .ne 7, 3) := by decide +kernel
theorem dd_X6_firstOfRow_41 : decode cX6_firstOfRow 41 = .ok (.iconst 1, 1) := by decide +kernel
theorem dd_X6_firstOfRow_42 : decode cX6_firstOfRow 42 = .ok (.goto 4, 3) := by decide +kernel
theorem dd_X6_firstOfRow_45 : decode cX6_firstOfRow 45 = .ok (.iconst 0, 1) := by decide +kernel
theorem dd_X6_firstOfRow_46 : decode cX6_firstOfRow 46 = .ok (.invokevirtual 59, 3) := by decide +kernel
theorem dd_X6_firstOfRow_49 : decode cX6_firstOfRow 49 = .ok (.iload_n 2, 1) := by decide +kernel
theorem dd_X6_firstOfRow_50 : decode cX6_firstOfRow 50 = .ok (.iconst 1, 1) := by decide +kernel
theorem dd_X6_firstOfRow_51 : decode cX6_firstOfRow 51 = .ok (.if_icmp .ne 19, 3) := by decide +kernel
theorem dd_X6_firstOfRow_54 : decode cX6_firstOfRow 54 = .ok (.aload_n 0, 1) := by decide +kernel
theorem dd_X6_firstOfRow_55 : decode cX6_firstOfRow 55 = .ok (.invokevirtual 62, 3) := by decide +kernel
theorem dd_X6_firstOfRow_58 : decode cX6_firstOfRow 58 = .ok (.iload_n 1, 1) := by decide +kernel
theorem dd_X6_firstOfRow_59 : decode cX6_firstOfRow 59 = .ok (.if_icmp .ne 7, 3) := by decide +kernel
theorem dd_X6_firstOfRow_62 : decode cX6_firstOfRow 62 = .ok (.iconst 1, 1) := by decide +kernel
theorem dd_X6_firstOfRow_63 : decode cX6_firstOfRow 63 = .ok (.goto 24, 3) := by decide +kernel
theorem dd_X6_firstOfRow_66 : decode cX6_firstOfRow 66 = .ok (.iconst 0, 1) := by decide +kernel
theorem dd_X6_firstOfRow_67 : decode cX6_firstOfRow 67 = .ok (.goto 20, 3) := by decide +kernel
theorem dd_X6_firstOfRow_70 : decode cX6_firstOfRow 70 = .ok (.aload_n 0, 1) := by decide +kernel
theorem dd_X6_firstOfRow_71 : decode cX6_firstOfRow 71 = .ok (.iload_n 1, 1) := by decide +kernel
theorem dd_X6_firstOfRow_72 : decode cX6_firstOfRow 72 = .ok (.iload_n 2, 1) := by decide +kernel
theorem dd_X6_firstOfRow_73 : decode cX6_firstOfRow 73 = .ok (.iconst 1, 1) := by decide +kernel
theorem dd_X6_firstOfRow_74 : decode cX6_firstOfRow 74 = .ok (.isub, 1) := by decide +kernel
theorem dd_X6_firstOfRow_75 : decode cX6_firstOfRow 75 = .ok (.invokevirtual 66, 3) := by decide +kernel
theorem dd_X6_firstOfRow_78 : decode cX6_firstOfRow 78 = .ok (.iconst (-1), 1) := by decide +kernel
theorem dd_X6_firstOfRow_79 : decode cX6_firstOfRow 79 = .ok (.if_icmp .eq 7, 3) := by decide +kernel
theorem dd_X6_firstOfRow_82 : decode cX6_firstOfRow 82 = .ok (.iconst 1, 1) := by decide +kernel
theorem dd_X6_firstOfRow_83 : decode cX6_firstOfRow 83 = .ok (.goto 4, 3) := by decide +kernel
theorem dd_X6_firstOfRow_86 : decode cX6_firstOfRow 86 = .ok (.iconst 0, 1) := by decide +kernel
theorem dd_X6_firstOfRow_87 : decode cX6_firstOfRow 87 = .ok (.istore 4, 2) := by decide +kernel
theorem dd_X6_firstOfRow_89 : decode cX6_firstOfRow 89 = .ok (.aload_n 0, 1) := by decide +kernel
theorem dd_X6_firstOfRow_90 : decode cX6_firstOfRow 90 = .ok (.iload_n 3, 1) := by decide +kernel
theorem dd_X6_firstOfRow_91 : decode cX6_firstOfRow 91 = .ok (.invokevirtual 70, 3) := by decide +kernel
theorem dd_X6_firstOfRow_94 : decode cX6_firstOfRow 94 = .ok (.iload 4, 2) := by decide +kernel
theorem dd_X6_firstOfRow_96 : decode cX6_firstOfRow 96 = .ok (.ifCond .eq 5, 3) := by decide +kernel
theorem dd_X6_firstOfRow_99 : decode cX6_firstOfRow 99 = .ok (.iload_n 3, 1) := by decide +kernel
theorem dd_X6_firstOfRow_100 : decode cX6_firstOfRow 100 = .ok (.ireturn, 1) := by decide +kernel
theorem dd_X6_firstOfRow_101 : decode cX6_firstOfRow 101 = .ok (.iinc 3 1, 3) := by decide +kernel
theorem dd_X6_firstOfRow_104 : decode cX6_firstOfRow 104 = .ok (.goto (-90), 3) := by decide +kernel
theorem dd_X6_firstOfRow_107 : decode cX6_firstOfRow 107 = .ok (.iconst (-1), 1) := by decide +kernel
theorem dd_X6_firstOfRow_108 : decode cX6_firstOfRow 108 = .ok (.ireturn, 1) := by decide +kernel
def tb_X6_firstOfRow (kd : Nat → Nat) (K : zK) (spr : zSpec) : zTab := [(0, zt_iload 2 1), (1, zt_const (zI 1) 2), (2, zt_icmp (fun x y => x < y) (fun x y => ¬ x < y) 10 5), (5, zt_iload 2 6), (6, zt_const (zI 2) 7), (7, zt_icmp (fun x y => x ≤ y) (fun x y => ¬ x ≤ y) 12 10), (10, zt_const (zI (-1)) 11), (11, zt_iret K), (12, zt_const (zI 0) 13), (13, zt_istore 3 14), (14, zt_iload 3 15), (15, zt_const (zI 20) 17), (17, zt_icmp (fun x y => y ≤ x) (fun x y => ¬ y ≤ x) 107 20), (20, zt_aload 0 21), (21, zt_getR kd 6 1 0 24), (24, zt_iload 3 25), (25, zt_call kd sp_X3_canDo 2 28), (28, zt_if (fun x => ¬ x = 0) (fun x => x = 0) 34 31), (31, zt_goto 101), (34, zt_aload 0 35), (35, zt_iload 3 36), (36, zt_iload 1 37), (37, zt_const (zI 1) 38), (38, zt_icmp (fun x y => ¬ x = y) (fun x y => x = y) 45 41), (41, zt_const (zI 1) 42), (42, zt_goto 46), (45, zt_const (zI 0) 46), (46, zt_call kd sp_X6_act 3 49), (49, zt_iload 2 50), (50, zt_const (zI 1) 51), (51, zt_icmp (fun x y => ¬ x = y) (fun x y => x = y) 70 54), (54, zt_aload 0 55), (55, zt_call kd sp_X6_law 1 58), (58, zt_iload 1 59), (59, zt_icmp (fun x y => ¬ x = y) (fun x y => x = y) 66 62), (62, zt_const (zI 1) 63), (63, zt_goto 87), (66, zt_const (zI 0) 67), (67, zt_goto 87), (70, zt_aload 0 71), (71, zt_iload 1 72), (72, zt_iload 2 73), (73, zt_const (zI 1) 74), (74, zt_bin (fun x y => x - y) 75), (75, zt_call kd spr 3 78), (78, zt_const (zI (-1)) 79), (79, zt_icmp (fun x y => x = y) (fun x y => ¬ x = y) 86 82), (82, zt_const (zI 1) 83), (83, zt_goto 87), (86, zt_const (zI 0) 87), (87, zt_istore 4 89), (89, zt_aload 0 90), (90, zt_iload 3 91), (91, zt_call kd sp_X6_takeBack 2 94), (94, zt_iload 4 96), (96, zt_if (fun x => x = 0) (fun x => ¬ x = 0) 101 99), (99, zt_iload 3 100), (100, zt_iret K), (101, zt_iinc 3 1 104), (104, zt_goto 14), (107, zt_const (zI (-1)) 108), (108, zt_iret K)]
set_option maxRecDepth 20000 in
theorem tk_X6_firstOfRow (d : Nat) (h_X3_canDo : zMS 4 yX3_canDo cX3_canDo 2 (some .boolean) sp_X3_canDo) (h_X6_act : zMS 5 yX6_act cX6_act 4 none sp_X6_act) (h_X6_law : zMS 1 yX6_law cX6_law 3 (some .int) sp_X6_law) (h_X6_takeBack : zMS 5 yX6_takeBack cX6_takeBack 3 none sp_X6_takeBack) {spr : zSpec} (hrr : zrv spr 6 2) (hrec : zMet (d + 5) yX6_firstOfRow cX6_firstOfRow 5 (some .int) spr) : zTrue RX6 cX6_firstOfRow 5 (some .int) (d + 6) (fun kd K => tb_X6_firstOfRow kd K spr) := by
  intro p l e R s m args below meth c D cy A ad bl Qm K C0 hr hlocks hQ
  obtain ⟨hx, hb, hml, hown, hts, hK, hD, hA0, hN, hE, ⟨hR1, hR2⟩, hc1, hc2⟩ := id C0
  unfold tb_X6_firstOfRow
  refine List.forall_mem_cons.mpr ⟨ok_iload_n hx hb rfl dd_X6_firstOfRow_0, ?_⟩
  refine List.forall_mem_cons.mpr ⟨ok_iconst hx hb dd_X6_firstOfRow_1 (by decide), ?_⟩
  refine List.forall_mem_cons.mpr ⟨ok_icmp_lt hx hb dd_X6_firstOfRow_2 (by decide), ?_⟩
  refine List.forall_mem_cons.mpr ⟨ok_iload_n hx hb rfl dd_X6_firstOfRow_5, ?_⟩
  refine List.forall_mem_cons.mpr ⟨ok_iconst hx hb dd_X6_firstOfRow_6 (by decide), ?_⟩
  refine List.forall_mem_cons.mpr ⟨ok_icmp_le hx hb dd_X6_firstOfRow_7 (by decide), ?_⟩
  refine List.forall_mem_cons.mpr ⟨ok_iconst hx hb dd_X6_firstOfRow_10 (by decide), ?_⟩
  refine List.forall_mem_cons.mpr ⟨ok_iret hx hb hr hlocks hQ dd_X6_firstOfRow_11, ?_⟩
  refine List.forall_mem_cons.mpr ⟨ok_iconst hx hb dd_X6_firstOfRow_12 (by decide), ?_⟩
  refine List.forall_mem_cons.mpr ⟨ok_istore_n hx hb rfl dd_X6_firstOfRow_13, ?_⟩
  refine List.forall_mem_cons.mpr ⟨ok_iload_n hx hb rfl dd_X6_firstOfRow_14, ?_⟩
  refine List.forall_mem_cons.mpr ⟨ok_bipush hx hb dd_X6_firstOfRow_15 (by decide), ?_⟩
  refine List.forall_mem_cons.mpr ⟨ok_icmp_ge hx hb dd_X6_firstOfRow_17 (by decide), ?_⟩
  refine List.forall_mem_cons.mpr ⟨ok_aload_n hx hb rfl dd_X6_firstOfRow_20, ?_⟩
  refine List.forall_mem_cons.mpr ⟨ok_getR (j := 0) hx hb hts zi_X6 hown hK zc_X6 (by decide) rfl (fun t fl h => by cases h; rfl) (hts _ wd_224) dd_X6_firstOfRow_21, ?_⟩
  refine List.forall_mem_cons.mpr ⟨ok_iload_n hx hb rfl dd_X6_firstOfRow_24, ?_⟩
  refine List.forall_mem_cons.mpr ⟨ok_callVN (n := 1) zc_X3 rv_X3_canDo C0 (h_X3_canDo (d + 5) (by omega)) (by decide) wd_653 nd_650 wd_652 wd_41 wd_102 ⟨by decide +kernel, by decide +kernel, by decide +kernel⟩ dd_X6_firstOfRow_25, ?_⟩
  refine List.forall_mem_cons.mpr ⟨ok_if_ne hx hb dd_X6_firstOfRow_28 (by decide), ?_⟩
  refine List.forall_mem_cons.mpr ⟨ok_goto hx hb dd_X6_firstOfRow_31 (by decide), ?_⟩
  refine List.forall_mem_cons.mpr ⟨ok_aload_n hx hb rfl dd_X6_firstOfRow_34, ?_⟩
  refine List.forall_mem_cons.mpr ⟨ok_iload_n hx hb rfl dd_X6_firstOfRow_35, ?_⟩
  refine List.forall_mem_cons.mpr ⟨ok_iload_n hx hb rfl dd_X6_firstOfRow_36, ?_⟩
  refine List.forall_mem_cons.mpr ⟨ok_iconst hx hb dd_X6_firstOfRow_37 (by decide), ?_⟩
  refine List.forall_mem_cons.mpr ⟨ok_icmp_ne hx hb dd_X6_firstOfRow_38 (by decide), ?_⟩
  refine List.forall_mem_cons.mpr ⟨ok_iconst hx hb dd_X6_firstOfRow_41 (by decide), ?_⟩
  refine List.forall_mem_cons.mpr ⟨ok_goto hx hb dd_X6_firstOfRow_42 (by decide), ?_⟩
  refine List.forall_mem_cons.mpr ⟨ok_iconst hx hb dd_X6_firstOfRow_45 (by decide), ?_⟩
  refine List.forall_mem_cons.mpr ⟨ok_callV (n := 2) zc_X6 rv_X6_act C0 (h_X6_act (d + 5) (by omega)) (by decide) wd_659 wd_656 wd_658 wd_42 wd_105 ⟨rfl, by decide +kernel, by decide +kernel, by decide +kernel⟩ dd_X6_firstOfRow_46, ?_⟩
  refine List.forall_mem_cons.mpr ⟨ok_iload_n hx hb rfl dd_X6_firstOfRow_49, ?_⟩
  refine List.forall_mem_cons.mpr ⟨ok_iconst hx hb dd_X6_firstOfRow_50 (by decide), ?_⟩
  refine List.forall_mem_cons.mpr ⟨ok_icmp_ne hx hb dd_X6_firstOfRow_51 (by decide), ?_⟩
  refine List.forall_mem_cons.mpr ⟨ok_aload_n hx hb rfl dd_X6_firstOfRow_54, ?_⟩
  refine List.forall_mem_cons.mpr ⟨ok_callV (n := 0) zc_X6 rv_X6_law C0 (h_X6_law (d + 5) (by omega)) (by decide) wd_645 wd_668 wd_644 wd_39 wd_105 ⟨rfl, by decide +kernel, by decide +kernel, by decide +kernel⟩ dd_X6_firstOfRow_55, ?_⟩
  refine List.forall_mem_cons.mpr ⟨ok_iload_n hx hb rfl dd_X6_firstOfRow_58, ?_⟩
  refine List.forall_mem_cons.mpr ⟨ok_icmp_ne hx hb dd_X6_firstOfRow_59 (by decide), ?_⟩
  refine List.forall_mem_cons.mpr ⟨ok_iconst hx hb dd_X6_firstOfRow_62 (by decide), ?_⟩
  refine List.forall_mem_cons.mpr ⟨ok_goto hx hb dd_X6_firstOfRow_63 (by decide), ?_⟩
  refine List.forall_mem_cons.mpr ⟨ok_iconst hx hb dd_X6_firstOfRow_66 (by decide), ?_⟩
  refine List.forall_mem_cons.mpr ⟨ok_goto hx hb dd_X6_firstOfRow_67 (by decide), ?_⟩
  refine List.forall_mem_cons.mpr ⟨ok_aload_n hx hb rfl dd_X6_firstOfRow_70, ?_⟩
  refine List.forall_mem_cons.mpr ⟨ok_iload_n hx hb rfl dd_X6_firstOfRow_71, ?_⟩
  refine List.forall_mem_cons.mpr ⟨ok_iload_n hx hb rfl dd_X6_firstOfRow_72, ?_⟩
  refine List.forall_mem_cons.mpr ⟨ok_iconst hx hb dd_X6_firstOfRow_73 (by decide), ?_⟩
  refine List.forall_mem_cons.mpr ⟨ok_isub hx hb dd_X6_firstOfRow_74, ?_⟩
  refine List.forall_mem_cons.mpr ⟨ok_callV (n := 2) zc_X6 hrr C0 (hrec) (by decide) wd_649 wd_669 wd_648 wd_40 wd_105 ⟨rfl, by decide +kernel, by decide +kernel, by decide +kernel⟩ dd_X6_firstOfRow_75, ?_⟩
  refine List.forall_mem_cons.mpr ⟨ok_iconst hx hb dd_X6_firstOfRow_78 (by decide), ?_⟩
  refine List.forall_mem_cons.mpr ⟨ok_icmp_eq hx hb dd_X6_firstOfRow_79 (by decide), ?_⟩
  refine List.forall_mem_cons.mpr ⟨ok_iconst hx hb dd_X6_firstOfRow_82 (by decide), ?_⟩
  refine List.forall_mem_cons.mpr ⟨ok_goto hx hb dd_X6_firstOfRow_83 (by decide), ?_⟩
  refine List.forall_mem_cons.mpr ⟨ok_iconst hx hb dd_X6_firstOfRow_86 (by decide), ?_⟩
  refine List.forall_mem_cons.mpr ⟨ok_istore hx hb dd_X6_firstOfRow_87, ?_⟩
  refine List.forall_mem_cons.mpr ⟨ok_aload_n hx hb rfl dd_X6_firstOfRow_89, ?_⟩
  refine List.forall_mem_cons.mpr ⟨ok_iload_n hx hb rfl dd_X6_firstOfRow_90, ?_⟩
  refine List.forall_mem_cons.mpr ⟨ok_callV (n := 1) zc_X6 rv_X6_takeBack C0 (h_X6_takeBack (d + 5) (by omega)) (by decide) wd_673 wd_670 wd_672 wd_44 wd_105 ⟨rfl, by decide +kernel, by decide +kernel, by decide +kernel⟩ dd_X6_firstOfRow_91, ?_⟩
  refine List.forall_mem_cons.mpr ⟨ok_iload hx hb dd_X6_firstOfRow_94, ?_⟩
  refine List.forall_mem_cons.mpr ⟨ok_if_eq hx hb dd_X6_firstOfRow_96 (by decide), ?_⟩
  refine List.forall_mem_cons.mpr ⟨ok_iload_n hx hb rfl dd_X6_firstOfRow_99, ?_⟩
  refine List.forall_mem_cons.mpr ⟨ok_iret hx hb hr hlocks hQ dd_X6_firstOfRow_100, ?_⟩
  refine List.forall_mem_cons.mpr ⟨ok_iinc hx hb dd_X6_firstOfRow_101 (by decide), ?_⟩
  refine List.forall_mem_cons.mpr ⟨ok_goto hx hb dd_X6_firstOfRow_104 (by decide), ?_⟩
  refine List.forall_mem_cons.mpr ⟨ok_iconst hx hb dd_X6_firstOfRow_107 (by decide), ?_⟩
  refine List.forall_mem_cons.mpr ⟨ok_iret hx hb hr hlocks hQ dd_X6_firstOfRow_108, ?_⟩
  exact fun _ h => absurd h List.not_mem_nil
set_option maxRecDepth 100000 in
theorem vc_X6_firstOfRow_0 {m : Nat} {kd : Nat → Nat} {K : zK} {X : zX} (hX : ∀ (n pc : Nat) (ls : zLS) (st : List zV) (M : zM), zrun (tb_X6_firstOfRow kd K (sp_X6_firstOfRow (m - 1))) [(14, [4])] n X pc ls st M → X pc ls st M) {t : Nat} {q : Int32} {n : Int32} {M : zM}  (h : ((n < (1 : Int32)) → K (some (zI ((-1 : Int32)))) M) ∧ ((¬ n < (1 : Int32)) → ((n ≤ (2 : Int32)) → X 14 [some (zR t 0), some (zI (q)), some (zI (n)), some (zI ((0 : Int32))), none] [] M) ∧ ((¬ n ≤ (2 : Int32)) → K (some (zI ((-1 : Int32)))) M))) : X 0 [some (zR t 0), some (zI (q)), some (zI (n)), none, none] [] M := hX 10 0 _ [] M (show ((n < (1 : Int32)) → K (some (zI ((-1 : Int32)))) M) ∧ ((¬ n < (1 : Int32)) → ((n ≤ (2 : Int32)) → X 14 [some (zR t 0), some (zI (q)), some (zI (n)), some (zI ((0 : Int32))), none] [] M) ∧ ((¬ n ≤ (2 : Int32)) → K (some (zI ((-1 : Int32)))) M)) from ⟨fun q => have h := h.1 q; h, fun q => have h := h.2 q; ⟨fun q => have h := h.1 q; h, fun q => have h := h.2 q; h⟩⟩)
set_option maxRecDepth 100000 in
theorem vc_X6_firstOfRow_14 {m : Nat} {kd : Nat → Nat} {K : zK} {X : zX} (hX : ∀ (n pc : Nat) (ls : zLS) (st : List zV) (M : zM), zrun (tb_X6_firstOfRow kd K (sp_X6_firstOfRow (m - 1))) [(14, [4])] n X pc ls st M → X pc ls st M) {t : Nat} {q : Int32} {n : Int32} {w : Int32} {M : zM} (hk0 : kd (t + 1) = 3) (hk1 : kd t = 6) (h : (((20 : Int32) ≤ w) → K (some (zI ((-1 : Int32)))) M) ∧ ((¬ (20 : Int32) ≤ w) → ∃ a1 : Sk, (RpS (M.1 (t + 1)) a1) ∧ (0 ≤ w.toInt ∧ w.toInt < 20) ∧ ∀ v1 : Int32, (v1 = zp (sk_may a1 w.toInt = true)) → ((¬ v1 = 0) → ((¬ q = (1 : Int32)) → ∃ a2 : Sk, ∃ g2 : Int, ∃ y2 : Int, (RpR M t a2 g2 y2) ∧ (0 ≤ w.toInt ∧ w.toInt ≤ 20) ∧ (tr_may a2 w.toInt = true) ∧ ((0 : Int32).toInt = 0 ∨ (0 : Int32).toInt = 1) ∧ ∀ M2 : zM, (trF M t M2) → (RpR M2 t (tr_do a2 w.toInt g2 (0 : Int32).toInt) g2 y2) → ((¬ n = (1 : Int32)) → ∃ a3 : Sk, ∃ g3 : Int, ∃ y3 : Int, (RpR M2 t a3 g3 y3) ∧ ((n - (1 : Int32)).toInt = Int.ofNat (m - 1)) ∧ ((m - 1) = 1 ∨ (m - 1) = 2) ∧ (q.toInt = 1 ∨ q.toInt = 2) ∧ ∀ v3 : Int32, (isFst (fun w => sk_may a3 w && rowOk g3 y3 q.toInt ((m - 1) - 1) (sk_do a3 w g3 (le12 q.toInt))) 20 v3.toInt) → ∀ M3 : zM, (trF M2 t M3) → (RpR M3 t (a3) g3 y3) → ((v3 = (-1 : Int32)) → ∃ a4 : Sk, ∃ g4 : Int, ∃ y4 : Int, (RpR M3 t a4 g4 y4) ∧ ∃ b4 : Sk, (okSk b4) ∧ (0 ≤ w.toInt ∧ w.toInt ≤ 20) ∧ (tr_aft b4 w.toInt a4) ∧ ∀ M4 : zM, (trF M3 t M4) → (RpR M4 t (b4) g4 y4) → X 14 [some (zR t 0), some (zI (q)), some (zI (n)), some (zI (w + 1)), none] [] M4) ∧ ((¬ v3 = (-1 : Int32)) → ∃ a5 : Sk, ∃ g5 : Int, ∃ y5 : Int, (RpR M3 t a5 g5 y5) ∧ ∃ b5 : Sk, (okSk b5) ∧ (0 ≤ w.toInt ∧ w.toInt ≤ 20) ∧ (tr_aft b5 w.toInt a5) ∧ ∀ M5 : zM, (trF M3 t M5) → (RpR M5 t (b5) g5 y5) → K (some (zI (w))) M5)) ∧ ((n = (1 : Int32)) → ∃ a6 : Sk, ∃ g6 : Int, ∃ y6 : Int, (RpR M2 t a6 g6 y6) ∧ ∀ v6 : Int32, (v6.toInt = sk_law a6 g6 y6) → ((¬ v6 = q) → ∃ a7 : Sk, ∃ g7 : Int, ∃ y7 : Int, (RpR M2 t a7 g7 y7) ∧ ∃ b7 : Sk, (okSk b7) ∧ (0 ≤ w.toInt ∧ w.toInt ≤ 20) ∧ (tr_aft b7 w.toInt a7) ∧ ∀ M7 : zM, (trF M2 t M7) → (RpR M7 t (b7) g7 y7) → X 14 [some (zR t 0), some (zI (q)), some (zI (n)), some (zI (w + 1)), none] [] M7) ∧ ((v6 = q) → ∃ a8 : Sk, ∃ g8 : Int, ∃ y8 : Int, (RpR M2 t a8 g8 y8) ∧ ∃ b8 : Sk, (okSk b8) ∧ (0 ≤ w.toInt ∧ w.toInt ≤ 20) ∧ (tr_aft b8 w.toInt a8) ∧ ∀ M8 : zM, (trF M2 t M8) → (RpR M8 t (b8) g8 y8) → K (some (zI (w))) M8))) ∧ ((q = (1 : Int32)) → ∃ a9 : Sk, ∃ g9 : Int, ∃ y9 : Int, (RpR M t a9 g9 y9) ∧ (0 ≤ w.toInt ∧ w.toInt ≤ 20) ∧ (tr_may a9 w.toInt = true) ∧ ((1 : Int32).toInt = 0 ∨ (1 : Int32).toInt = 1) ∧ ∀ M9 : zM, (trF M t M9) → (RpR M9 t (tr_do a9 w.toInt g9 (1 : Int32).toInt) g9 y9) → ((¬ n = (1 : Int32)) → ∃ a10 : Sk, ∃ g10 : Int, ∃ y10 : Int, (RpR M9 t a10 g10 y10) ∧ ((n - (1 : Int32)).toInt = Int.ofNat (m - 1)) ∧ ((m - 1) = 1 ∨ (m - 1) = 2) ∧ (q.toInt = 1 ∨ q.toInt = 2) ∧ ∀ v10 : Int32, (isFst (fun w => sk_may a10 w && rowOk g10 y10 q.toInt ((m - 1) - 1) (sk_do a10 w g10 (le12 q.toInt))) 20 v10.toInt) → ∀ M10 : zM, (trF M9 t M10) → (RpR M10 t (a10) g10 y10) → ((v10 = (-1 : Int32)) → ∃ a11 : Sk, ∃ g11 : Int, ∃ y11 : Int, (RpR M10 t a11 g11 y11) ∧ ∃ b11 : Sk, (okSk b11) ∧ (0 ≤ w.toInt ∧ w.toInt ≤ 20) ∧ (tr_aft b11 w.toInt a11) ∧ ∀ M11 : zM, (trF M10 t M11) → (RpR M11 t (b11) g11 y11) → X 14 [some (zR t 0), some (zI (q)), some (zI (n)), some (zI (w + 1)), none] [] M11) ∧ ((¬ v10 = (-1 : Int32)) → ∃ a12 : Sk, ∃ g12 : Int, ∃ y12 : Int, (RpR M10 t a12 g12 y12) ∧ ∃ b12 : Sk, (okSk b12) ∧ (0 ≤ w.toInt ∧ w.toInt ≤ 20) ∧ (tr_aft b12 w.toInt a12) ∧ ∀ M12 : zM, (trF M10 t M12) → (RpR M12 t (b12) g12 y12) → K (some (zI (w))) M12)) ∧ ((n = (1 : Int32)) → ∃ a13 : Sk, ∃ g13 : Int, ∃ y13 : Int, (RpR M9 t a13 g13 y13) ∧ ∀ v13 : Int32, (v13.toInt = sk_law a13 g13 y13) → ((¬ v13 = q) → ∃ a14 : Sk, ∃ g14 : Int, ∃ y14 : Int, (RpR M9 t a14 g14 y14) ∧ ∃ b14 : Sk, (okSk b14) ∧ (0 ≤ w.toInt ∧ w.toInt ≤ 20) ∧ (tr_aft b14 w.toInt a14) ∧ ∀ M14 : zM, (trF M9 t M14) → (RpR M14 t (b14) g14 y14) → X 14 [some (zR t 0), some (zI (q)), some (zI (n)), some (zI (w + 1)), none] [] M14) ∧ ((v13 = q) → ∃ a15 : Sk, ∃ g15 : Int, ∃ y15 : Int, (RpR M9 t a15 g15 y15) ∧ ∃ b15 : Sk, (okSk b15) ∧ (0 ≤ w.toInt ∧ w.toInt ≤ 20) ∧ (tr_aft b15 w.toInt a15) ∧ ∀ M15 : zM, (trF M9 t M15) → (RpR M15 t (b15) g15 y15) → K (some (zI (w))) M15)))) ∧ ((v1 = 0) → X 14 [some (zR t 0), some (zI (q)), some (zI (n)), some (zI (w + 1)), none] [] M))) : X 14 [some (zR t 0), some (zI (q)), some (zI (n)), some (zI (w)), none] [] M := hX 39 14 _ [] M (show (((20 : Int32) ≤ w) → K (some (zI ((-1 : Int32)))) M) ∧ ((¬ (20 : Int32) ≤ w) → (kd t = 6) ∧ (kd (t + 1) = 3) ∧ ∃ a1 : Sk, (RpS (M.1 (t + 1)) a1) ∧ (0 ≤ w.toInt ∧ w.toInt < 20) ∧ ∀ v1 : Int32, (v1 = zp (sk_may a1 w.toInt = true)) → ((¬ v1 = 0) → ((¬ q = (1 : Int32)) → (kd t = 6) ∧ (kd (t + 1) = 3) ∧ ∃ a2 : Sk, ∃ g2 : Int, ∃ y2 : Int, (RpR M t a2 g2 y2) ∧ (0 ≤ w.toInt ∧ w.toInt ≤ 20) ∧ (tr_may a2 w.toInt = true) ∧ ((0 : Int32).toInt = 0 ∨ (0 : Int32).toInt = 1) ∧ ∀ M2 : zM, (trF M t M2) → (RpR M2 t (tr_do a2 w.toInt g2 (0 : Int32).toInt) g2 y2) → ((¬ n = (1 : Int32)) → (kd t = 6) ∧ (kd (t + 1) = 3) ∧ ∃ a3 : Sk, ∃ g3 : Int, ∃ y3 : Int, (RpR M2 t a3 g3 y3) ∧ ((n - (1 : Int32)).toInt = Int.ofNat (m - 1)) ∧ ((m - 1) = 1 ∨ (m - 1) = 2) ∧ (q.toInt = 1 ∨ q.toInt = 2) ∧ ∀ v3 : Int32, (isFst (fun w => sk_may a3 w && rowOk g3 y3 q.toInt ((m - 1) - 1) (sk_do a3 w g3 (le12 q.toInt))) 20 v3.toInt) → ∀ M3 : zM, (trF M2 t M3) → (RpR M3 t (a3) g3 y3) → ((v3 = (-1 : Int32)) → (kd t = 6) ∧ (kd (t + 1) = 3) ∧ ∃ a4 : Sk, ∃ g4 : Int, ∃ y4 : Int, (RpR M3 t a4 g4 y4) ∧ ∃ b4 : Sk, (okSk b4) ∧ (0 ≤ w.toInt ∧ w.toInt ≤ 20) ∧ (tr_aft b4 w.toInt a4) ∧ ∀ M4 : zM, (trF M3 t M4) → (RpR M4 t (b4) g4 y4) → (((0 : Int32) = 0) → X 14 [some (zR t 0), some (zI (q)), some (zI (n)), some (zI (w + 1)), none] [] M4) ∧ ((¬ (0 : Int32) = 0) → K (some (zI (w))) M4)) ∧ ((¬ v3 = (-1 : Int32)) → (kd t = 6) ∧ (kd (t + 1) = 3) ∧ ∃ a5 : Sk, ∃ g5 : Int, ∃ y5 : Int, (RpR M3 t a5 g5 y5) ∧ ∃ b5 : Sk, (okSk b5) ∧ (0 ≤ w.toInt ∧ w.toInt ≤ 20) ∧ (tr_aft b5 w.toInt a5) ∧ ∀ M5 : zM, (trF M3 t M5) → (RpR M5 t (b5) g5 y5) → (((1 : Int32) = 0) → X 14 [some (zR t 0), some (zI (q)), some (zI (n)), some (zI (w + 1)), none] [] M5) ∧ ((¬ (1 : Int32) = 0) → K (some (zI (w))) M5))) ∧ ((n = (1 : Int32)) → (kd t = 6) ∧ (kd (t + 1) = 3) ∧ ∃ a6 : Sk, ∃ g6 : Int, ∃ y6 : Int, (RpR M2 t a6 g6 y6) ∧ ∀ v6 : Int32, (v6.toInt = sk_law a6 g6 y6) → ((¬ v6 = q) → (kd t = 6) ∧ (kd (t + 1) = 3) ∧ ∃ a7 : Sk, ∃ g7 : Int, ∃ y7 : Int, (RpR M2 t a7 g7 y7) ∧ ∃ b7 : Sk, (okSk b7) ∧ (0 ≤ w.toInt ∧ w.toInt ≤ 20) ∧ (tr_aft b7 w.toInt a7) ∧ ∀ M7 : zM, (trF M2 t M7) → (RpR M7 t (b7) g7 y7) → (((0 : Int32) = 0) → X 14 [some (zR t 0), some (zI (q)), some (zI (n)), some (zI (w + 1)), none] [] M7) ∧ ((¬ (0 : Int32) = 0) → K (some (zI (w))) M7)) ∧ ((v6 = q) → (kd t = 6) ∧ (kd (t + 1) = 3) ∧ ∃ a8 : Sk, ∃ g8 : Int, ∃ y8 : Int, (RpR M2 t a8 g8 y8) ∧ ∃ b8 : Sk, (okSk b8) ∧ (0 ≤ w.toInt ∧ w.toInt ≤ 20) ∧ (tr_aft b8 w.toInt a8) ∧ ∀ M8 : zM, (trF M2 t M8) → (RpR M8 t (b8) g8 y8) → (((1 : Int32) = 0) → X 14 [some (zR t 0), some (zI (q)), some (zI (n)), some (zI (w + 1)), none] [] M8) ∧ ((¬ (1 : Int32) = 0) → K (some (zI (w))) M8)))) ∧ ((q = (1 : Int32)) → (kd t = 6) ∧ (kd (t + 1) = 3) ∧ ∃ a9 : Sk, ∃ g9 : Int, ∃ y9 : Int, (RpR M t a9 g9 y9) ∧ (0 ≤ w.toInt ∧ w.toInt ≤ 20) ∧ (tr_may a9 w.toInt = true) ∧ ((1 : Int32).toInt = 0 ∨ (1 : Int32).toInt = 1) ∧ ∀ M9 : zM, (trF M t M9) → (RpR M9 t (tr_do a9 w.toInt g9 (1 : Int32).toInt) g9 y9) → ((¬ n = (1 : Int32)) → (kd t = 6) ∧ (kd (t + 1) = 3) ∧ ∃ a10 : Sk, ∃ g10 : Int, ∃ y10 : Int, (RpR M9 t a10 g10 y10) ∧ ((n - (1 : Int32)).toInt = Int.ofNat (m - 1)) ∧ ((m - 1) = 1 ∨ (m - 1) = 2) ∧ (q.toInt = 1 ∨ q.toInt = 2) ∧ ∀ v10 : Int32, (isFst (fun w => sk_may a10 w && rowOk g10 y10 q.toInt ((m - 1) - 1) (sk_do a10 w g10 (le12 q.toInt))) 20 v10.toInt) → ∀ M10 : zM, (trF M9 t M10) → (RpR M10 t (a10) g10 y10) → ((v10 = (-1 : Int32)) → (kd t = 6) ∧ (kd (t + 1) = 3) ∧ ∃ a11 : Sk, ∃ g11 : Int, ∃ y11 : Int, (RpR M10 t a11 g11 y11) ∧ ∃ b11 : Sk, (okSk b11) ∧ (0 ≤ w.toInt ∧ w.toInt ≤ 20) ∧ (tr_aft b11 w.toInt a11) ∧ ∀ M11 : zM, (trF M10 t M11) → (RpR M11 t (b11) g11 y11) → (((0 : Int32) = 0) → X 14 [some (zR t 0), some (zI (q)), some (zI (n)), some (zI (w + 1)), none] [] M11) ∧ ((¬ (0 : Int32) = 0) → K (some (zI (w))) M11)) ∧ ((¬ v10 = (-1 : Int32)) → (kd t = 6) ∧ (kd (t + 1) = 3) ∧ ∃ a12 : Sk, ∃ g12 : Int, ∃ y12 : Int, (RpR M10 t a12 g12 y12) ∧ ∃ b12 : Sk, (okSk b12) ∧ (0 ≤ w.toInt ∧ w.toInt ≤ 20) ∧ (tr_aft b12 w.toInt a12) ∧ ∀ M12 : zM, (trF M10 t M12) → (RpR M12 t (b12) g12 y12) → (((1 : Int32) = 0) → X 14 [some (zR t 0), some (zI (q)), some (zI (n)), some (zI (w + 1)), none] [] M12) ∧ ((¬ (1 : Int32) = 0) → K (some (zI (w))) M12))) ∧ ((n = (1 : Int32)) → (kd t = 6) ∧ (kd (t + 1) = 3) ∧ ∃ a13 : Sk, ∃ g13 : Int, ∃ y13 : Int, (RpR M9 t a13 g13 y13) ∧ ∀ v13 : Int32, (v13.toInt = sk_law a13 g13 y13) → ((¬ v13 = q) → (kd t = 6) ∧ (kd (t + 1) = 3) ∧ ∃ a14 : Sk, ∃ g14 : Int, ∃ y14 : Int, (RpR M9 t a14 g14 y14) ∧ ∃ b14 : Sk, (okSk b14) ∧ (0 ≤ w.toInt ∧ w.toInt ≤ 20) ∧ (tr_aft b14 w.toInt a14) ∧ ∀ M14 : zM, (trF M9 t M14) → (RpR M14 t (b14) g14 y14) → (((0 : Int32) = 0) → X 14 [some (zR t 0), some (zI (q)), some (zI (n)), some (zI (w + 1)), none] [] M14) ∧ ((¬ (0 : Int32) = 0) → K (some (zI (w))) M14)) ∧ ((v13 = q) → (kd t = 6) ∧ (kd (t + 1) = 3) ∧ ∃ a15 : Sk, ∃ g15 : Int, ∃ y15 : Int, (RpR M9 t a15 g15 y15) ∧ ∃ b15 : Sk, (okSk b15) ∧ (0 ≤ w.toInt ∧ w.toInt ≤ 20) ∧ (tr_aft b15 w.toInt a15) ∧ ∀ M15 : zM, (trF M9 t M15) → (RpR M15 t (b15) g15 y15) → (((1 : Int32) = 0) → X 14 [some (zR t 0), some (zI (q)), some (zI (n)), some (zI (w + 1)), none] [] M15) ∧ ((¬ (1 : Int32) = 0) → K (some (zI (w))) M15))))) ∧ ((v1 = 0) → X 14 [some (zR t 0), some (zI (q)), some (zI (n)), some (zI (w + 1)), none] [] M)) from ⟨fun q => have h := h.1 q; h, fun q => have h := h.2 q; ⟨hk1, ⟨hk0, h.elim (fun a1 h => ⟨a1, ⟨h.1, have h := h.2; ⟨h.1, have h := h.2; fun v1 => have h := h v1; fun q => have h := h q; ⟨fun q => have h := h.1 q; ⟨fun q => have h := h.1 q; ⟨hk1, ⟨hk0, h.elim (fun a2 h => ⟨a2, h.elim (fun g2 h => ⟨g2, h.elim (fun y2 h => ⟨y2, ⟨h.1, have h := h.2; ⟨h.1, have h := h.2; ⟨h.1, have h := h.2; ⟨h.1, have h := h.2; fun M2 => have h := h M2; fun q => have h := h q; fun q => have h := h q; ⟨fun q => have h := h.1 q; ⟨hk1, ⟨hk0, h.elim (fun a3 h => ⟨a3, h.elim (fun g3 h => ⟨g3, h.elim (fun y3 h => ⟨y3, ⟨h.1, have h := h.2; ⟨h.1, have h := h.2; ⟨h.1, have h := h.2; ⟨h.1, have h := h.2; fun v3 => have h := h v3; fun q => have h := h q; fun M3 => have h := h M3; fun q => have h := h q; fun q => have h := h q; ⟨fun q => have h := h.1 q; ⟨hk1, ⟨hk0, h.elim (fun a4 h => ⟨a4, h.elim (fun g4 h => ⟨g4, h.elim (fun y4 h => ⟨y4, ⟨h.1, have h := h.2; h.elim (fun b4 h => ⟨b4, ⟨h.1, have h := h.2; ⟨h.1, have h := h.2; ⟨h.1, have h := h.2; fun M4 => have h := h M4; fun q => have h := h q; fun q => have h := h q; ⟨fun _ => h, fun q => absurd q (by decide)⟩⟩⟩⟩⟩)⟩⟩)⟩)⟩)⟩⟩, fun q => have h := h.2 q; ⟨hk1, ⟨hk0, h.elim (fun a5 h => ⟨a5, h.elim (fun g5 h => ⟨g5, h.elim (fun y5 h => ⟨y5, ⟨h.1, have h := h.2; h.elim (fun b5 h => ⟨b5, ⟨h.1, have h := h.2; ⟨h.1, have h := h.2; ⟨h.1, have h := h.2; fun M5 => have h := h M5; fun q => have h := h q; fun q => have h := h q; ⟨fun q => absurd q (by decide), fun _ => h⟩⟩⟩⟩⟩)⟩⟩)⟩)⟩)⟩⟩⟩⟩⟩⟩⟩⟩)⟩)⟩)⟩⟩, fun q => have h := h.2 q; ⟨hk1, ⟨hk0, h.elim (fun a6 h => ⟨a6, h.elim (fun g6 h => ⟨g6, h.elim (fun y6 h => ⟨y6, ⟨h.1, have h := h.2; fun v6 => have h := h v6; fun q => have h := h q; ⟨fun q => have h := h.1 q; ⟨hk1, ⟨hk0, h.elim (fun a7 h => ⟨a7, h.elim (fun g7 h => ⟨g7, h.elim (fun y7 h => ⟨y7, ⟨h.1, have h := h.2; h.elim (fun b7 h => ⟨b7, ⟨h.1, have h := h.2; ⟨h.1, have h := h.2; ⟨h.1, have h := h.2; fun M7 => have h := h M7; fun q => have h := h q; fun q => have h := h q; ⟨fun _ => h, fun q => absurd q (by decide)⟩⟩⟩⟩⟩)⟩⟩)⟩)⟩)⟩⟩, fun q => have h := h.2 q; ⟨hk1, ⟨hk0, h.elim (fun a8 h => ⟨a8, h.elim (fun g8 h => ⟨g8, h.elim (fun y8 h => ⟨y8, ⟨h.1, have h := h.2; h.elim (fun b8 h => ⟨b8, ⟨h.1, have h := h.2; ⟨h.1, have h := h.2; ⟨h.1, have h := h.2; fun M8 => have h := h M8; fun q => have h := h q; fun q => have h := h q; ⟨fun q => absurd q (by decide), fun _ => h⟩⟩⟩⟩⟩)⟩⟩)⟩)⟩)⟩⟩⟩⟩⟩)⟩)⟩)⟩⟩⟩⟩⟩⟩⟩⟩)⟩)⟩)⟩⟩, fun q => have h := h.2 q; ⟨hk1, ⟨hk0, h.elim (fun a9 h => ⟨a9, h.elim (fun g9 h => ⟨g9, h.elim (fun y9 h => ⟨y9, ⟨h.1, have h := h.2; ⟨h.1, have h := h.2; ⟨h.1, have h := h.2; ⟨h.1, have h := h.2; fun M9 => have h := h M9; fun q => have h := h q; fun q => have h := h q; ⟨fun q => have h := h.1 q; ⟨hk1, ⟨hk0, h.elim (fun a10 h => ⟨a10, h.elim (fun g10 h => ⟨g10, h.elim (fun y10 h => ⟨y10, ⟨h.1, have h := h.2; ⟨h.1, have h := h.2; ⟨h.1, have h := h.2; ⟨h.1, have h := h.2; fun v10 => have h := h v10; fun q => have h := h q; fun M10 => have h := h M10; fun q => have h := h q; fun q => have h := h q; ⟨fun q => have h := h.1 q; ⟨hk1, ⟨hk0, h.elim (fun a11 h => ⟨a11, h.elim (fun g11 h => ⟨g11, h.elim (fun y11 h => ⟨y11, ⟨h.1, have h := h.2; h.elim (fun b11 h => ⟨b11, ⟨h.1, have h := h.2; ⟨h.1, have h := h.2; ⟨h.1, have h := h.2; fun M11 => have h := h M11; fun q => have h := h q; fun q => have h := h q; ⟨fun _ => h, fun q => absurd q (by decide)⟩⟩⟩⟩⟩)⟩⟩)⟩)⟩)⟩⟩, fun q => have h := h.2 q; ⟨hk1, ⟨hk0, h.elim (fun a12 h => ⟨a12, h.elim (fun g12 h => ⟨g12, h.elim (fun y12 h => ⟨y12, ⟨h.1, have h := h.2; h.elim (fun b12 h => ⟨b12, ⟨h.1, have h := h.2; ⟨h.1, have h := h.2; ⟨h.1, have h := h.2; fun M12 => have h := h M12; fun q => have h := h q; fun q => have h := h q; ⟨fun q => absurd q (by decide), fun _ => h⟩⟩⟩⟩⟩)⟩⟩)⟩)⟩)⟩⟩⟩⟩⟩⟩⟩⟩)⟩)⟩)⟩⟩, fun q => have h := h.2 q; ⟨hk1, ⟨hk0, h.elim (fun a13 h => ⟨a13, h.elim (fun g13 h => ⟨g13, h.elim (fun y13 h => ⟨y13, ⟨h.1, have h := h.2; fun v13 => have h := h v13; fun q => have h := h q; ⟨fun q => have h := h.1 q; ⟨hk1, ⟨hk0, h.elim (fun a14 h => ⟨a14, h.elim (fun g14 h => ⟨g14, h.elim (fun y14 h => ⟨y14, ⟨h.1, have h := h.2; h.elim (fun b14 h => ⟨b14, ⟨h.1, have h := h.2; ⟨h.1, have h := h.2; ⟨h.1, have h := h.2; fun M14 => have h := h M14; fun q => have h := h q; fun q => have h := h q; ⟨fun _ => h, fun q => absurd q (by decide)⟩⟩⟩⟩⟩)⟩⟩)⟩)⟩)⟩⟩, fun q => have h := h.2 q; ⟨hk1, ⟨hk0, h.elim (fun a15 h => ⟨a15, h.elim (fun g15 h => ⟨g15, h.elim (fun y15 h => ⟨y15, ⟨h.1, have h := h.2; h.elim (fun b15 h => ⟨b15, ⟨h.1, have h := h.2; ⟨h.1, have h := h.2; ⟨h.1, have h := h.2; fun M15 => have h := h M15; fun q => have h := h q; fun q => have h := h q; ⟨fun q => absurd q (by decide), fun _ => h⟩⟩⟩⟩⟩)⟩⟩)⟩)⟩)⟩⟩⟩⟩⟩)⟩)⟩)⟩⟩⟩⟩⟩⟩⟩⟩)⟩)⟩)⟩⟩⟩, fun q => have h := h.2 q; h⟩⟩⟩⟩)⟩⟩⟩)
def sp_X6_worth (m : Nat) : zSpec := fun kd as M K => match as with
  | [.inr (.inr (.inl (t, 0))), .inl n, .inl e] => (kd t = 6) ∧ (kd (t + 1) = 3) ∧ ∃ a : Sk, ∃ g : Int, ∃ y : Int, (RpR M t a g y) ∧ (0 < m ∧ m ≤ 4) ∧ (n.toInt = Int.ofNat m - 1) ∧ (e.toInt = 0 ∨ e.toInt = 1) ∧ ∀ v : Int32, (v.toInt = wv g y (m - 1) e.toInt a) → ∀ M' : zM, (trF M t M') → (RpR M' t (a) g y) → (1 < m → (M'.1 t 0 4).toInt = wc g y (m - 2) e.toInt a) → K (some (.inl v)) M'
  | _ => False
def spa_X6_worth : zSpec := fun kd as M K => match as with
  | [.inr (.inr (.inl (t, 0))), .inl n, .inl e] => (kd t = 6) ∧ (kd (t + 1) = 3) ∧ ∃ a : Sk, ∃ g : Int, ∃ y : Int, (RpR M t a g y) ∧ (0 ≤ n.toInt ∧ n.toInt ≤ 3) ∧ (e.toInt = 0 ∨ e.toInt = 1) ∧ ∀ v : Int32, (v.toInt = wv g y n.toInt.toNat e.toInt a) → ∀ M' : zM, (trF M t M') → (RpR M' t (a) g y) → (0 < n.toInt → (M'.1 t 0 4).toInt = wc g y (n.toInt.toNat - 1) e.toInt a) → K (some (.inl v)) M'
  | _ => False
theorem rva_X6_worth : zrv spa_X6_worth 6 2 := by
  intro kd as M K h
  unfold spa_X6_worth at h
  split at h
  · exact ⟨_, _, rfl, h.1⟩
  · exact h.elim
theorem rv_X6_worth (m : Nat) : zrv (sp_X6_worth m) 6 2 := by
  intro kd as M K h
  unfold sp_X6_worth at h
  split at h
  · exact ⟨_, _, rfl, h.1⟩
  · exact h.elim
theorem dd_X6_worth_0 : decode cX6_worth 0 = .ok (.iload_n 1, 1) := by decide +kernel
theorem dd_X6_worth_1 : decode cX6_worth 1 = .ok (.iconst 1, 1) := by decide +kernel
theorem dd_X6_worth_2 : decode cX6_worth 2 = .ok (.if_icmp .lt 8, 3) := by decide +kernel
theorem dd_X6_worth_5 : decode cX6_worth 5 = .ok (.iload_n 1, 1) := by decide +kernel
theorem dd_X6_worth_6 : decode cX6_worth 6 = .ok (.iconst 3, 1) := by decide +kernel
theorem dd_X6_worth_7 : decode cX6_worth 7 = .ok (.if_icmp .le 8, 3) := by decide +kernel
theorem dd_X6_worth_10 : decode cX6_worth 10 = .ok (.aload_n 0, 1) := by decide +kernel
theorem dd_X6_worth_11 : decode cX6_worth 11 = .ok (.invokevirtual 71, 3) := by decide +kernel
theorem dd_X6_worth_14 : decode cX6_worth 14 = .ok (.ireturn, 1) := by decide +kernel
theorem dd_X6_worth_15 : decode cX6_worth 15 = .ok (.iload_n 2, 1) := by decide +kernel
theorem dd_X6_worth_16 : decode cX6_worth 16 = .ok (.iconst 1, 1) := by decide +kernel
theorem dd_X6_worth_17 : decode cX6_worth 17 = .ok (.if_icmp .ne 7, 3) := by decide +kernel
theorem dd_X6_worth_20 : decode cX6_worth 20 = .ok (.iconst 2, 1) := by decide +kernel
theorem dd_X6_worth_21 : decode cX6_worth 21 = .ok (.goto 4, 3) := by decide +kernel
theorem dd_X6_worth_24 : decode cX6_worth 24 = .ok (.iconst 0, 1) := by decide +kernel
theorem dd_X6_worth_25 : decode cX6_worth 25 = .ok (.istore_n 3, 1) := by decide +kernel
theorem dd_X6_worth_26 : decode cX6_worth 26 = .ok (.iload_n 2, 1) := by decide +kernel
theorem dd_X6_worth_27 : decode cX6_worth 27 = .ok (.iconst 1, 1) := by decide +kernel
theorem dd_X6_worth_28 : decode cX6_worth 28 = .ok (.if_icmp .ne 7, 3) := by decide +kernel
theorem dd_X6_worth_31 : decode cX6_worth 31 = .ok (.iconst (-1), 1) := by decide +kernel
theorem dd_X6_worth_32 : decode cX6_worth 32 = .ok (.goto 4, 3) := by decide +kernel
theorem dd_X6_worth_35 : decode cX6_worth 35 = .ok (.iconst 3, 1) := by decide +kernel
theorem dd_X6_worth_36 : decode cX6_worth 36 = .ok (.istore 4, 2) := by decide +kernel
theorem dd_X6_worth_38 : decode cX6_worth 38 = .ok (.bipush 20, 2) := by decide +kernel
theorem dd_X6_worth_40 : decode cX6_worth 40 = .ok (.istore 5, 2) := by decide +kernel
theorem dd_X6_worth_42 : decode cX6_worth 42 = .ok (.iconst 0, 1) := by decide +kernel
theorem dd_X6_worth_43 : decode cX6_worth 43 = .ok (.istore 6, 2) := by decide +kernel
theorem dd_X6_worth_45 : decode cX6_worth 45 = .ok (.iload 6, 2) := by decide +kernel
theorem dd_X6_worth_47 : decode cX6_worth 47 = .ok (.bipush 20, 2) := by decide +kernel
theorem dd_X6_worth_49 : decode cX6_worth 49 = .ok (.if_icmp .gt 82, 3) := by decide +kernel
theorem dd_X6_worth_52 : decode cX6_worth 52 = .ok (.iload 4, 2) := by decide +kernel
theorem dd_X6_worth_54 : decode cX6_worth 54 = .ok (.iload_n 3, 1) := by decide +kernel
theorem dd_X6_worth_55 : decode cX6_worth 55 = .ok (.if_icmp .eq 76, 3) := by decide +kernel
theorem dd_X6_worth_58 : decode cX6_worth 58 = .ok (.aload_n 0, 1) := by decide +kernel
theorem dd_X6_worth_59 : decode cX6_worth 59 = .ok (.iload 6, 2) := by decide +kernel
theorem dd_X6_worth_61 : decode cX6_worth 61 = .ok (.invokevirtual 74, 3) := by decide +kernel
theorem dd_X6_worth_64 : decode cX6_worth 64 = .ok (.ifCond .ne 6, 3) := by decide +kernel
theorem dd_X6_worth_67 : decode cX6_worth 67 = .ok (.goto 58, 3) := by decide +kernel
theorem dd_X6_worth_70 : decode cX6_worth 70 = .ok (.aload_n 0, 1) := by decide +kernel
theorem dd_X6_worth_71 : decode cX6_worth 71 = .ok (.iload 6, 2) := by decide +kernel
theorem dd_X6_worth_73 : decode cX6_worth 73 = .ok (.iload_n 2, 1) := by decide +kernel
theorem dd_X6_worth_74 : decode cX6_worth 74 = .ok (.invokevirtual 59, 3) := by decide +kernel
theorem dd_X6_worth_77 : decode cX6_worth 77 = .ok (.aload_n 0, 1) := by decide +kernel
theorem dd_X6_worth_78 : decode cX6_worth 78 = .ok (.iload_n 1, 1) := by decide +kernel
theorem dd_X6_worth_79 : decode cX6_worth 79 = .ok (.iconst 1, 1) := by decide +kernel
theorem dd_X6_worth_80 : decode cX6_worth 80 = .ok (.isub, 1) := by decide +kernel
theorem dd_X6_worth_81 : decode cX6_worth 81 = .ok (.iconst 1, 1) := by decide +kernel
theorem dd_X6_worth_82 : decode cX6_worth 82 = .ok (.iload_n 2, 1) := by decide +kernel
theorem dd_X6_worth_83 : decode cX6_worth 83 = .ok (.isub, 1) := by decide +kernel
theorem dd_X6_worth_84 : decode cX6_worth 84 = .ok (.invokevirtual 75, 3) := by decide +kernel
theorem dd_X6_worth_87 : decode cX6_worth 87 = .ok (.istore 7, 2) := by decide +kernel
theorem dd_X6_worth_89 : decode cX6_worth 89 = .ok (.aload_n 0, 1) := by decide +kernel
theorem dd_X6_worth_90 : decode cX6_worth 90 = .ok (.iload 6, 2) := by decide +kernel
theorem dd_X6_worth_92 : decode cX6_worth 92 = .ok (.invokevirtual 70, 3) := by decide +kernel
theorem dd_X6_worth_95 : decode cX6_worth 95 = .ok (.iload_n 2, 1) := by decide +kernel
theorem dd_X6_worth_96 : decode cX6_worth 96 = .ok (.iconst 1, 1) := by decide +kernel
theorem dd_X6_worth_97 : decode cX6_worth 97 = .ok (.if_icmp .ne 13, 3) := by decide +kernel
theorem dd_X6_worth_100 : decode cX6_worth 100 = .ok (.iload 7, 2) := by decide +kernel
theorem dd_X6_worth_102 : decode cX6_worth 102 = .ok (.iload 4, 2) := by decide +kernel
theorem dd_X6_worth_104 : decode cX6_worth 104 = .ok (.if_icmp .le 21, 3) := by decide +kernel
theorem dd_X6_worth_107 : decode cX6_worth 107 = .ok (.goto 10, 3) := by decide +kernel
theorem dd_X6_worth_110 : decode cX6_worth 110 = .ok (.iload 7, 2) := by decide +kernel
theorem dd_X6_worth_112 : decode cX6_worth 112 = .ok (.iload 4, 2) := by decide +kernel
theorem dd_X6_worth_114 : decode cX6_worth 114 = .ok (.if_icmp .ge 11, 3) := by decide +kernel
theorem dd_X6_worth_117 : decode cX6_worth 117 = .ok (.iload 7, 2) := by decide +kernel
theorem dd_X6_worth_119 : decode cX6_worth 119 = .ok (.istore 4, 2) := by decide +kernel
theorem dd_X6_worth_121 : decode cX6_worth 121 = .ok (.iload 6, 2) := by decide +kernel
theorem dd_X6_worth_123 : decode cX6_worth 123 = .ok (.istore 5, 2) := by decide +kernel
theorem dd_X6_worth_125 : decode cX6_worth 125 = .ok (.iinc 6 1, 3) := by decide +kernel
theorem dd_X6_worth_128 : decode cX6_worth 128 = .ok (.goto (-83), 3) := by decide +kernel
theorem dd_X6_worth_131 : decode cX6_worth 131 = .ok (.aload_n 0, 1) := by decide +kernel
theorem dd_X6_worth_132 : decode cX6_worth 132 = .ok (.iload 5, 2) := by decide +kernel
theorem dd_X6_worth_134 : decode cX6_worth 134 = .ok (.putfield 29, 3) := by decide +kernel
theorem dd_X6_worth_137 : decode cX6_worth 137 = .ok (.iload 4, 2) := by decide +kernel
theorem dd_X6_worth_139 : decode cX6_worth 139 = .ok (.ireturn, 1) := by decide +kernel
def tb_X6_worth (kd : Nat → Nat) (K : zK) (spr : zSpec) : zTab := [(0, zt_iload 1 1), (1, zt_const (zI 1) 2), (2, zt_icmp (fun x y => x < y) (fun x y => ¬ x < y) 10 5), (5, zt_iload 1 6), (6, zt_const (zI 3) 7), (7, zt_icmp (fun x y => x ≤ y) (fun x y => ¬ x ≤ y) 15 10), (10, zt_aload 0 11), (11, zt_call kd sp_X6_worthOfLaw 1 14), (14, zt_iret K), (15, zt_iload 2 16), (16, zt_const (zI 1) 17), (17, zt_icmp (fun x y => ¬ x = y) (fun x y => x = y) 24 20), (20, zt_const (zI 2) 21), (21, zt_goto 25), (24, zt_const (zI 0) 25), (25, zt_istore 3 26), (26, zt_iload 2 27), (27, zt_const (zI 1) 28), (28, zt_icmp (fun x y => ¬ x = y) (fun x y => x = y) 35 31), (31, zt_const (zI (-1)) 32), (32, zt_goto 36), (35, zt_const (zI 3) 36), (36, zt_istore 4 38), (38, zt_const (zI 20) 40), (40, zt_istore 5 42), (42, zt_const (zI 0) 43), (43, zt_istore 6 45), (45, zt_iload 6 47), (47, zt_const (zI 20) 49), (49, zt_icmp (fun x y => y < x) (fun x y => ¬ y < x) 131 52), (52, zt_iload 4 54), (54, zt_iload 3 55), (55, zt_icmp (fun x y => x = y) (fun x y => ¬ x = y) 131 58), (58, zt_aload 0 59), (59, zt_iload 6 61), (61, zt_call kd sp_X6_canDo 2 64), (64, zt_if (fun x => ¬ x = 0) (fun x => x = 0) 70 67), (67, zt_goto 125), (70, zt_aload 0 71), (71, zt_iload 6 73), (73, zt_iload 2 74), (74, zt_call kd sp_X6_act 3 77), (77, zt_aload 0 78), (78, zt_iload 1 79), (79, zt_const (zI 1) 80), (80, zt_bin (fun x y => x - y) 81), (81, zt_const (zI 1) 82), (82, zt_iload 2 83), (83, zt_bin (fun x y => x - y) 84), (84, zt_call kd spr 3 87), (87, zt_istore 7 89), (89, zt_aload 0 90), (90, zt_iload 6 92), (92, zt_call kd sp_X6_takeBack 2 95), (95, zt_iload 2 96), (96, zt_const (zI 1) 97), (97, zt_icmp (fun x y => ¬ x = y) (fun x y => x = y) 110 100), (100, zt_iload 7 102), (102, zt_iload 4 104), (104, zt_icmp (fun x y => x ≤ y) (fun x y => ¬ x ≤ y) 125 107), (107, zt_goto 117), (110, zt_iload 7 112), (112, zt_iload 4 114), (114, zt_icmp (fun x y => y ≤ x) (fun x y => ¬ y ≤ x) 125 117), (117, zt_iload 7 119), (119, zt_istore 4 121), (121, zt_iload 6 123), (123, zt_istore 5 125), (125, zt_iinc 6 1 128), (128, zt_goto 45), (131, zt_aload 0 132), (132, zt_iload 5 134), (134, zt_putI kd 6 4 137), (137, zt_iload 4 139), (139, zt_iret K)]
set_option maxRecDepth 20000 in
theorem tk_X6_worth (d : Nat) (h_X6_worthOfLaw : zMS 2 yX6_worthOfLaw cX6_worthOfLaw 1 (some .int) sp_X6_worthOfLaw) (h_X6_canDo : zMS 5 yX6_canDo cX6_canDo 2 (some .boolean) sp_X6_canDo) (h_X6_act : zMS 5 yX6_act cX6_act 4 none sp_X6_act) (h_X6_takeBack : zMS 5 yX6_takeBack cX6_takeBack 3 none sp_X6_takeBack) {spr : zSpec} (hrr : zrv spr 6 2) (hrec : zMet (d + 5) yX6_worth cX6_worth 8 (some .int) spr) : zTrue RX6 cX6_worth 8 (some .int) (d + 6) (fun kd K => tb_X6_worth kd K spr) := by
  intro p l e R s m args below meth c D cy A ad bl Qm K C0 hr hlocks hQ
  obtain ⟨hx, hb, hml, hown, hts, hK, hD, hA0, hN, hE, ⟨hR1, hR2⟩, hc1, hc2⟩ := id C0
  unfold tb_X6_worth
  refine List.forall_mem_cons.mpr ⟨ok_iload_n hx hb rfl dd_X6_worth_0, ?_⟩
  refine List.forall_mem_cons.mpr ⟨ok_iconst hx hb dd_X6_worth_1 (by decide), ?_⟩
  refine List.forall_mem_cons.mpr ⟨ok_icmp_lt hx hb dd_X6_worth_2 (by decide), ?_⟩
  refine List.forall_mem_cons.mpr ⟨ok_iload_n hx hb rfl dd_X6_worth_5, ?_⟩
  refine List.forall_mem_cons.mpr ⟨ok_iconst hx hb dd_X6_worth_6 (by decide), ?_⟩
  refine List.forall_mem_cons.mpr ⟨ok_icmp_le hx hb dd_X6_worth_7 (by decide), ?_⟩
  refine List.forall_mem_cons.mpr ⟨ok_aload_n hx hb rfl dd_X6_worth_10, ?_⟩
  refine List.forall_mem_cons.mpr ⟨ok_callV (n := 0) zc_X6 rv_X6_worthOfLaw C0 (h_X6_worthOfLaw (d + 5) (by omega)) (by decide) wd_686 wd_683 wd_685 wd_46 wd_105 ⟨rfl, by decide +kernel, by decide +kernel, by decide +kernel⟩ dd_X6_worth_11, ?_⟩
  refine List.forall_mem_cons.mpr ⟨ok_iret hx hb hr hlocks hQ dd_X6_worth_14, ?_⟩
  refine List.forall_mem_cons.mpr ⟨ok_iload_n hx hb rfl dd_X6_worth_15, ?_⟩
  refine List.forall_mem_cons.mpr ⟨ok_iconst hx hb dd_X6_worth_16 (by decide), ?_⟩
  refine List.forall_mem_cons.mpr ⟨ok_icmp_ne hx hb dd_X6_worth_17 (by decide), ?_⟩
  refine List.forall_mem_cons.mpr ⟨ok_iconst hx hb dd_X6_worth_20 (by decide), ?_⟩
  refine List.forall_mem_cons.mpr ⟨ok_goto hx hb dd_X6_worth_21 (by decide), ?_⟩
  refine List.forall_mem_cons.mpr ⟨ok_iconst hx hb dd_X6_worth_24 (by decide), ?_⟩
  refine List.forall_mem_cons.mpr ⟨ok_istore_n hx hb rfl dd_X6_worth_25, ?_⟩
  refine List.forall_mem_cons.mpr ⟨ok_iload_n hx hb rfl dd_X6_worth_26, ?_⟩
  refine List.forall_mem_cons.mpr ⟨ok_iconst hx hb dd_X6_worth_27 (by decide), ?_⟩
  refine List.forall_mem_cons.mpr ⟨ok_icmp_ne hx hb dd_X6_worth_28 (by decide), ?_⟩
  refine List.forall_mem_cons.mpr ⟨ok_iconst hx hb dd_X6_worth_31 (by decide), ?_⟩
  refine List.forall_mem_cons.mpr ⟨ok_goto hx hb dd_X6_worth_32 (by decide), ?_⟩
  refine List.forall_mem_cons.mpr ⟨ok_iconst hx hb dd_X6_worth_35 (by decide), ?_⟩
  refine List.forall_mem_cons.mpr ⟨ok_istore hx hb dd_X6_worth_36, ?_⟩
  refine List.forall_mem_cons.mpr ⟨ok_bipush hx hb dd_X6_worth_38 (by decide), ?_⟩
  refine List.forall_mem_cons.mpr ⟨ok_istore hx hb dd_X6_worth_40, ?_⟩
  refine List.forall_mem_cons.mpr ⟨ok_iconst hx hb dd_X6_worth_42 (by decide), ?_⟩
  refine List.forall_mem_cons.mpr ⟨ok_istore hx hb dd_X6_worth_43, ?_⟩
  refine List.forall_mem_cons.mpr ⟨ok_iload hx hb dd_X6_worth_45, ?_⟩
  refine List.forall_mem_cons.mpr ⟨ok_bipush hx hb dd_X6_worth_47 (by decide), ?_⟩
  refine List.forall_mem_cons.mpr ⟨ok_icmp_gt hx hb dd_X6_worth_49 (by decide), ?_⟩
  refine List.forall_mem_cons.mpr ⟨ok_iload hx hb dd_X6_worth_52, ?_⟩
  refine List.forall_mem_cons.mpr ⟨ok_iload_n hx hb rfl dd_X6_worth_54, ?_⟩
  refine List.forall_mem_cons.mpr ⟨ok_icmp_eq hx hb dd_X6_worth_55 (by decide), ?_⟩
  refine List.forall_mem_cons.mpr ⟨ok_aload_n hx hb rfl dd_X6_worth_58, ?_⟩
  refine List.forall_mem_cons.mpr ⟨ok_iload hx hb dd_X6_worth_59, ?_⟩
  refine List.forall_mem_cons.mpr ⟨ok_callV (n := 1) zc_X6 rv_X6_canDo C0 (h_X6_canDo (d + 5) (by omega)) (by decide) wd_690 wd_687 wd_689 wd_47 wd_105 ⟨rfl, by decide +kernel, by decide +kernel, by decide +kernel⟩ dd_X6_worth_61, ?_⟩
  refine List.forall_mem_cons.mpr ⟨ok_if_ne hx hb dd_X6_worth_64 (by decide), ?_⟩
  refine List.forall_mem_cons.mpr ⟨ok_goto hx hb dd_X6_worth_67 (by decide), ?_⟩
  refine List.forall_mem_cons.mpr ⟨ok_aload_n hx hb rfl dd_X6_worth_70, ?_⟩
  refine List.forall_mem_cons.mpr ⟨ok_iload hx hb dd_X6_worth_71, ?_⟩
  refine List.forall_mem_cons.mpr ⟨ok_iload_n hx hb rfl dd_X6_worth_73, ?_⟩
  refine List.forall_mem_cons.mpr ⟨ok_callV (n := 2) zc_X6 rv_X6_act C0 (h_X6_act (d + 5) (by omega)) (by decide) wd_659 wd_656 wd_658 wd_42 wd_105 ⟨rfl, by decide +kernel, by decide +kernel, by decide +kernel⟩ dd_X6_worth_74, ?_⟩
  refine List.forall_mem_cons.mpr ⟨ok_aload_n hx hb rfl dd_X6_worth_77, ?_⟩
  refine List.forall_mem_cons.mpr ⟨ok_iload_n hx hb rfl dd_X6_worth_78, ?_⟩
  refine List.forall_mem_cons.mpr ⟨ok_iconst hx hb dd_X6_worth_79 (by decide), ?_⟩
  refine List.forall_mem_cons.mpr ⟨ok_isub hx hb dd_X6_worth_80, ?_⟩
  refine List.forall_mem_cons.mpr ⟨ok_iconst hx hb dd_X6_worth_81 (by decide), ?_⟩
  refine List.forall_mem_cons.mpr ⟨ok_iload_n hx hb rfl dd_X6_worth_82, ?_⟩
  refine List.forall_mem_cons.mpr ⟨ok_isub hx hb dd_X6_worth_83, ?_⟩
  refine List.forall_mem_cons.mpr ⟨ok_callV (n := 2) zc_X6 hrr C0 (hrec) (by decide) wd_682 wd_691 wd_681 wd_45 wd_105 ⟨rfl, by decide +kernel, by decide +kernel, by decide +kernel⟩ dd_X6_worth_84, ?_⟩
  refine List.forall_mem_cons.mpr ⟨ok_istore hx hb dd_X6_worth_87, ?_⟩
  refine List.forall_mem_cons.mpr ⟨ok_aload_n hx hb rfl dd_X6_worth_89, ?_⟩
  refine List.forall_mem_cons.mpr ⟨ok_iload hx hb dd_X6_worth_90, ?_⟩
  refine List.forall_mem_cons.mpr ⟨ok_callV (n := 1) zc_X6 rv_X6_takeBack C0 (h_X6_takeBack (d + 5) (by omega)) (by decide) wd_673 wd_670 wd_672 wd_44 wd_105 ⟨rfl, by decide +kernel, by decide +kernel, by decide +kernel⟩ dd_X6_worth_92, ?_⟩
  refine List.forall_mem_cons.mpr ⟨ok_iload_n hx hb rfl dd_X6_worth_95, ?_⟩
  refine List.forall_mem_cons.mpr ⟨ok_iconst hx hb dd_X6_worth_96 (by decide), ?_⟩
  refine List.forall_mem_cons.mpr ⟨ok_icmp_ne hx hb dd_X6_worth_97 (by decide), ?_⟩
  refine List.forall_mem_cons.mpr ⟨ok_iload hx hb dd_X6_worth_100, ?_⟩
  refine List.forall_mem_cons.mpr ⟨ok_iload hx hb dd_X6_worth_102, ?_⟩
  refine List.forall_mem_cons.mpr ⟨ok_icmp_le hx hb dd_X6_worth_104 (by decide), ?_⟩
  refine List.forall_mem_cons.mpr ⟨ok_goto hx hb dd_X6_worth_107 (by decide), ?_⟩
  refine List.forall_mem_cons.mpr ⟨ok_iload hx hb dd_X6_worth_110, ?_⟩
  refine List.forall_mem_cons.mpr ⟨ok_iload hx hb dd_X6_worth_112, ?_⟩
  refine List.forall_mem_cons.mpr ⟨ok_icmp_ge hx hb dd_X6_worth_114 (by decide), ?_⟩
  refine List.forall_mem_cons.mpr ⟨ok_iload hx hb dd_X6_worth_117, ?_⟩
  refine List.forall_mem_cons.mpr ⟨ok_istore hx hb dd_X6_worth_119, ?_⟩
  refine List.forall_mem_cons.mpr ⟨ok_iload hx hb dd_X6_worth_121, ?_⟩
  refine List.forall_mem_cons.mpr ⟨ok_istore hx hb dd_X6_worth_123, ?_⟩
  refine List.forall_mem_cons.mpr ⟨ok_iinc hx hb dd_X6_worth_125 (by decide), ?_⟩
  refine List.forall_mem_cons.mpr ⟨ok_goto hx hb dd_X6_worth_128 (by decide), ?_⟩
  refine List.forall_mem_cons.mpr ⟨ok_aload_n hx hb rfl dd_X6_worth_131, ?_⟩
  refine List.forall_mem_cons.mpr ⟨ok_iload hx hb dd_X6_worth_132, ?_⟩
  refine List.forall_mem_cons.mpr ⟨ok_putI (j := 4) hx hb hts zi_X6 tyX6 tyX6_ok nmX6 hown hK hD zc_X6 (by decide) rfl rfl (by decide +kernel) (fun t fl h => by cases h; rfl) (hts _ wd_228) dd_X6_worth_134, ?_⟩
  refine List.forall_mem_cons.mpr ⟨ok_iload hx hb dd_X6_worth_137, ?_⟩
  refine List.forall_mem_cons.mpr ⟨ok_iret hx hb hr hlocks hQ dd_X6_worth_139, ?_⟩
  exact fun _ h => absurd h List.not_mem_nil
set_option maxRecDepth 100000 in
theorem vc_X6_worth_0 {m : Nat} {kd : Nat → Nat} {K : zK} {X : zX} (hX : ∀ (n pc : Nat) (ls : zLS) (st : List zV) (M : zM), zrun (tb_X6_worth kd K (sp_X6_worth (m - 1))) [(45, [7])] n X pc ls st M → X pc ls st M) {t : Nat} {n : Int32} {e : Int32} {M : zM} (hk0 : kd (t + 1) = 3) (hk1 : kd t = 6) (h : ((n < (1 : Int32)) → ∃ a1 : Sk, ∃ g1 : Int, ∃ y1 : Int, (RpR M t a1 g1 y1) ∧ ∀ v1 : Int32, (v1.toInt = wlaw (sk_law a1 g1 y1)) → K (some (zI (v1))) M) ∧ ((¬ n < (1 : Int32)) → ((n ≤ (3 : Int32)) → ((¬ e = (1 : Int32)) → ((¬ e = (1 : Int32)) → X 45 [some (zR t 0), some (zI (n)), some (zI (e)), some (zI ((0 : Int32))), some (zI ((3 : Int32))), some (zI ((20 : Int32))), some (zI ((0 : Int32))), none] [] M) ∧ ((e = (1 : Int32)) → X 45 [some (zR t 0), some (zI (n)), some (zI (e)), some (zI ((0 : Int32))), some (zI ((-1 : Int32))), some (zI ((20 : Int32))), some (zI ((0 : Int32))), none] [] M)) ∧ ((e = (1 : Int32)) → ((¬ e = (1 : Int32)) → X 45 [some (zR t 0), some (zI (n)), some (zI (e)), some (zI ((2 : Int32))), some (zI ((3 : Int32))), some (zI ((20 : Int32))), some (zI ((0 : Int32))), none] [] M) ∧ ((e = (1 : Int32)) → X 45 [some (zR t 0), some (zI (n)), some (zI (e)), some (zI ((2 : Int32))), some (zI ((-1 : Int32))), some (zI ((20 : Int32))), some (zI ((0 : Int32))), none] [] M))) ∧ ((¬ n ≤ (3 : Int32)) → ∃ a2 : Sk, ∃ g2 : Int, ∃ y2 : Int, (RpR M t a2 g2 y2) ∧ ∀ v2 : Int32, (v2.toInt = wlaw (sk_law a2 g2 y2)) → K (some (zI (v2))) M))) : X 0 [some (zR t 0), some (zI (n)), some (zI (e)), none, none, none, none, none] [] M := hX 24 0 _ [] M (show ((n < (1 : Int32)) → (kd t = 6) ∧ (kd (t + 1) = 3) ∧ ∃ a1 : Sk, ∃ g1 : Int, ∃ y1 : Int, (RpR M t a1 g1 y1) ∧ ∀ v1 : Int32, (v1.toInt = wlaw (sk_law a1 g1 y1)) → K (some (zI (v1))) M) ∧ ((¬ n < (1 : Int32)) → ((n ≤ (3 : Int32)) → ((¬ e = (1 : Int32)) → ((¬ e = (1 : Int32)) → X 45 [some (zR t 0), some (zI (n)), some (zI (e)), some (zI ((0 : Int32))), some (zI ((3 : Int32))), some (zI ((20 : Int32))), some (zI ((0 : Int32))), none] [] M) ∧ ((e = (1 : Int32)) → X 45 [some (zR t 0), some (zI (n)), some (zI (e)), some (zI ((0 : Int32))), some (zI ((-1 : Int32))), some (zI ((20 : Int32))), some (zI ((0 : Int32))), none] [] M)) ∧ ((e = (1 : Int32)) → ((¬ e = (1 : Int32)) → X 45 [some (zR t 0), some (zI (n)), some (zI (e)), some (zI ((2 : Int32))), some (zI ((3 : Int32))), some (zI ((20 : Int32))), some (zI ((0 : Int32))), none] [] M) ∧ ((e = (1 : Int32)) → X 45 [some (zR t 0), some (zI (n)), some (zI (e)), some (zI ((2 : Int32))), some (zI ((-1 : Int32))), some (zI ((20 : Int32))), some (zI ((0 : Int32))), none] [] M))) ∧ ((¬ n ≤ (3 : Int32)) → (kd t = 6) ∧ (kd (t + 1) = 3) ∧ ∃ a2 : Sk, ∃ g2 : Int, ∃ y2 : Int, (RpR M t a2 g2 y2) ∧ ∀ v2 : Int32, (v2.toInt = wlaw (sk_law a2 g2 y2)) → K (some (zI (v2))) M)) from ⟨fun q => have h := h.1 q; ⟨hk1, ⟨hk0, h.elim (fun a1 h => ⟨a1, h.elim (fun g1 h => ⟨g1, h.elim (fun y1 h => ⟨y1, ⟨h.1, have h := h.2; fun v1 => have h := h v1; fun q => have h := h q; h⟩⟩)⟩)⟩)⟩⟩, fun q => have h := h.2 q; ⟨fun q => have h := h.1 q; ⟨fun q => have h := h.1 q; ⟨fun q => have h := h.1 q; h, fun q => have h := h.2 q; h⟩, fun q => have h := h.2 q; ⟨fun q => have h := h.1 q; h, fun q => have h := h.2 q; h⟩⟩, fun q => have h := h.2 q; ⟨hk1, ⟨hk0, h.elim (fun a2 h => ⟨a2, h.elim (fun g2 h => ⟨g2, h.elim (fun y2 h => ⟨y2, ⟨h.1, have h := h.2; fun v2 => have h := h v2; fun q => have h := h q; h⟩⟩)⟩)⟩)⟩⟩⟩⟩)
set_option maxRecDepth 100000 in
theorem vc_X6_worth_45 {m : Nat} {kd : Nat → Nat} {K : zK} {X : zX} (hX : ∀ (n pc : Nat) (ls : zLS) (st : List zV) (M : zM), zrun (tb_X6_worth kd K (sp_X6_worth (m - 1))) [(45, [7])] n X pc ls st M → X pc ls st M) {t : Nat} {n : Int32} {e : Int32} {q : Int32} {b : Int32} {f : Int32} {w : Int32} {M : zM} (hk0 : kd t = 6) (hk1 : kd (t + 1) = 3) (h : (((20 : Int32) < w) → ∀ M1 : zM, (M1 = zmw M t 0 (upd (M.1 t 0) 4 f)) → K (some (zI (b))) M1) ∧ ((¬ (20 : Int32) < w) → ((b = q) → ∀ M2 : zM, (M2 = zmw M t 0 (upd (M.1 t 0) 4 f)) → K (some (zI (b))) M2) ∧ ((¬ b = q) → ∃ a3 : Sk, ∃ g3 : Int, ∃ y3 : Int, (RpR M t a3 g3 y3) ∧ (0 ≤ w.toInt ∧ w.toInt ≤ 20) ∧ ∀ v3 : Int32, (v3 = zp (tr_may a3 w.toInt = true)) → ((¬ v3 = 0) → ∃ a4 : Sk, ∃ g4 : Int, ∃ y4 : Int, (RpR M t a4 g4 y4) ∧ (0 ≤ w.toInt ∧ w.toInt ≤ 20) ∧ (tr_may a4 w.toInt = true) ∧ (e.toInt = 0 ∨ e.toInt = 1) ∧ ∀ M4 : zM, (trF M t M4) → (RpR M4 t (tr_do a4 w.toInt g4 e.toInt) g4 y4) → ∃ a5 : Sk, ∃ g5 : Int, ∃ y5 : Int, (RpR M4 t a5 g5 y5) ∧ (0 < (m - 1) ∧ (m - 1) ≤ 4) ∧ ((n - (1 : Int32)).toInt = Int.ofNat (m - 1) - 1) ∧ (((1 : Int32) - e).toInt = 0 ∨ ((1 : Int32) - e).toInt = 1) ∧ ∀ v5 : Int32, (v5.toInt = wv g5 y5 ((m - 1) - 1) ((1 : Int32) - e).toInt a5) → ∀ M5 : zM, (trF M4 t M5) → (RpR M5 t (a5) g5 y5) → (1 < (m - 1) → (M5.1 t 0 4).toInt = wc g5 y5 ((m - 1) - 2) ((1 : Int32) - e).toInt a5) → ∃ a6 : Sk, ∃ g6 : Int, ∃ y6 : Int, (RpR M5 t a6 g6 y6) ∧ ∃ b6 : Sk, (okSk b6) ∧ (0 ≤ w.toInt ∧ w.toInt ≤ 20) ∧ (tr_aft b6 w.toInt a6) ∧ ∀ M6 : zM, (trF M5 t M6) → (RpR M6 t (b6) g6 y6) → ((¬ e = (1 : Int32)) → ((b ≤ v5) → X 45 [some (zR t 0), some (zI (n)), some (zI (e)), some (zI (q)), some (zI (b)), some (zI (f)), some (zI (w + 1)), none] [] M6) ∧ ((¬ b ≤ v5) → X 45 [some (zR t 0), some (zI (n)), some (zI (e)), some (zI (q)), some (zI (v5)), some (zI (w)), some (zI (w + 1)), none] [] M6)) ∧ ((e = (1 : Int32)) → ((v5 ≤ b) → X 45 [some (zR t 0), some (zI (n)), some (zI (e)), some (zI (q)), some (zI (b)), some (zI (f)), some (zI (w + 1)), none] [] M6) ∧ ((¬ v5 ≤ b) → X 45 [some (zR t 0), some (zI (n)), some (zI (e)), some (zI (q)), some (zI (v5)), some (zI (w)), some (zI (w + 1)), none] [] M6))) ∧ ((v3 = 0) → X 45 [some (zR t 0), some (zI (n)), some (zI (e)), some (zI (q)), some (zI (b)), some (zI (f)), some (zI (w + 1)), none] [] M)))) : X 45 [some (zR t 0), some (zI (n)), some (zI (e)), some (zI (q)), some (zI (b)), some (zI (f)), some (zI (w)), none] [] M := hX 41 45 _ [] M (show (((20 : Int32) < w) → (kd t = 6) ∧ ∀ M1 : zM, (M1 = zmw M t 0 (upd (M.1 t 0) 4 f)) → K (some (zI (b))) M1) ∧ ((¬ (20 : Int32) < w) → ((b = q) → (kd t = 6) ∧ ∀ M2 : zM, (M2 = zmw M t 0 (upd (M.1 t 0) 4 f)) → K (some (zI (b))) M2) ∧ ((¬ b = q) → (kd t = 6) ∧ (kd (t + 1) = 3) ∧ ∃ a3 : Sk, ∃ g3 : Int, ∃ y3 : Int, (RpR M t a3 g3 y3) ∧ (0 ≤ w.toInt ∧ w.toInt ≤ 20) ∧ ∀ v3 : Int32, (v3 = zp (tr_may a3 w.toInt = true)) → ((¬ v3 = 0) → (kd t = 6) ∧ (kd (t + 1) = 3) ∧ ∃ a4 : Sk, ∃ g4 : Int, ∃ y4 : Int, (RpR M t a4 g4 y4) ∧ (0 ≤ w.toInt ∧ w.toInt ≤ 20) ∧ (tr_may a4 w.toInt = true) ∧ (e.toInt = 0 ∨ e.toInt = 1) ∧ ∀ M4 : zM, (trF M t M4) → (RpR M4 t (tr_do a4 w.toInt g4 e.toInt) g4 y4) → (kd t = 6) ∧ (kd (t + 1) = 3) ∧ ∃ a5 : Sk, ∃ g5 : Int, ∃ y5 : Int, (RpR M4 t a5 g5 y5) ∧ (0 < (m - 1) ∧ (m - 1) ≤ 4) ∧ ((n - (1 : Int32)).toInt = Int.ofNat (m - 1) - 1) ∧ (((1 : Int32) - e).toInt = 0 ∨ ((1 : Int32) - e).toInt = 1) ∧ ∀ v5 : Int32, (v5.toInt = wv g5 y5 ((m - 1) - 1) ((1 : Int32) - e).toInt a5) → ∀ M5 : zM, (trF M4 t M5) → (RpR M5 t (a5) g5 y5) → (1 < (m - 1) → (M5.1 t 0 4).toInt = wc g5 y5 ((m - 1) - 2) ((1 : Int32) - e).toInt a5) → (kd t = 6) ∧ (kd (t + 1) = 3) ∧ ∃ a6 : Sk, ∃ g6 : Int, ∃ y6 : Int, (RpR M5 t a6 g6 y6) ∧ ∃ b6 : Sk, (okSk b6) ∧ (0 ≤ w.toInt ∧ w.toInt ≤ 20) ∧ (tr_aft b6 w.toInt a6) ∧ ∀ M6 : zM, (trF M5 t M6) → (RpR M6 t (b6) g6 y6) → ((¬ e = (1 : Int32)) → ((b ≤ v5) → X 45 [some (zR t 0), some (zI (n)), some (zI (e)), some (zI (q)), some (zI (b)), some (zI (f)), some (zI (w + 1)), none] [] M6) ∧ ((¬ b ≤ v5) → X 45 [some (zR t 0), some (zI (n)), some (zI (e)), some (zI (q)), some (zI (v5)), some (zI (w)), some (zI (w + 1)), none] [] M6)) ∧ ((e = (1 : Int32)) → ((v5 ≤ b) → X 45 [some (zR t 0), some (zI (n)), some (zI (e)), some (zI (q)), some (zI (b)), some (zI (f)), some (zI (w + 1)), none] [] M6) ∧ ((¬ v5 ≤ b) → X 45 [some (zR t 0), some (zI (n)), some (zI (e)), some (zI (q)), some (zI (v5)), some (zI (w)), some (zI (w + 1)), none] [] M6))) ∧ ((v3 = 0) → X 45 [some (zR t 0), some (zI (n)), some (zI (e)), some (zI (q)), some (zI (b)), some (zI (f)), some (zI (w + 1)), none] [] M))) from ⟨fun q => have h := h.1 q; ⟨hk0, fun M1 => have h := h M1; fun q => have h := h q; h⟩, fun q => have h := h.2 q; ⟨fun q => have h := h.1 q; ⟨hk0, fun M2 => have h := h M2; fun q => have h := h q; h⟩, fun q => have h := h.2 q; ⟨hk0, ⟨hk1, h.elim (fun a3 h => ⟨a3, h.elim (fun g3 h => ⟨g3, h.elim (fun y3 h => ⟨y3, ⟨h.1, have h := h.2; ⟨h.1, have h := h.2; fun v3 => have h := h v3; fun q => have h := h q; ⟨fun q => have h := h.1 q; ⟨hk0, ⟨hk1, h.elim (fun a4 h => ⟨a4, h.elim (fun g4 h => ⟨g4, h.elim (fun y4 h => ⟨y4, ⟨h.1, have h := h.2; ⟨h.1, have h := h.2; ⟨h.1, have h := h.2; ⟨h.1, have h := h.2; fun M4 => have h := h M4; fun q => have h := h q; fun q => have h := h q; ⟨hk0, ⟨hk1, h.elim (fun a5 h => ⟨a5, h.elim (fun g5 h => ⟨g5, h.elim (fun y5 h => ⟨y5, ⟨h.1, have h := h.2; ⟨h.1, have h := h.2; ⟨h.1, have h := h.2; ⟨h.1, have h := h.2; fun v5 => have h := h v5; fun q => have h := h q; fun M5 => have h := h M5; fun q => have h := h q; fun q => have h := h q; fun q => have h := h q; ⟨hk0, ⟨hk1, h.elim (fun a6 h => ⟨a6, h.elim (fun g6 h => ⟨g6, h.elim (fun y6 h => ⟨y6, ⟨h.1, have h := h.2; h.elim (fun b6 h => ⟨b6, ⟨h.1, have h := h.2; ⟨h.1, have h := h.2; ⟨h.1, have h := h.2; fun M6 => have h := h M6; fun q => have h := h q; fun q => have h := h q; ⟨fun q => have h := h.1 q; ⟨fun q => have h := h.1 q; h, fun q => have h := h.2 q; h⟩, fun q => have h := h.2 q; ⟨fun q => have h := h.1 q; h, fun q => have h := h.2 q; h⟩⟩⟩⟩⟩⟩)⟩⟩)⟩)⟩)⟩⟩⟩⟩⟩⟩⟩)⟩)⟩)⟩⟩⟩⟩⟩⟩⟩)⟩)⟩)⟩⟩, fun q => have h := h.2 q; h⟩⟩⟩⟩)⟩)⟩)⟩⟩⟩⟩)
