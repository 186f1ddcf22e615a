
/-! a roll told by a text -/
def rdYr (b : List Int) (T : Tk) (a : Sk) : Bool × Tk × Sk := if numIs (tok b T.2.2.2) 1 99 then (true, tok b T.2.2.2, sk_yr a (tok b T.2.2.2).2.2.1) else (false, tok b T.2.2.2, a)
def rdRb (b : List Int) (T : Tk) (a : Sk) : Bool × Tk × Sk := if numIs (tok b T.2.2.2) 0 5 && sk_canR a (tok b T.2.2.2).2.2.1 then (true, tok b T.2.2.2, sk_rub a (tok b T.2.2.2).2.2.1) else (false, tok b T.2.2.2, a)
def rdWr4 (b : List Int) (c k g : Int) (T : Tk) (a : Sk) : Bool × Tk × Sk := if numIs (tok b T.2.2.2) 0 1 then (true, tok b T.2.2.2, sk_wr a c k g (tok b T.2.2.2).2.2.1) else (false, tok b T.2.2.2, a)
def rdWr3 (b : List Int) (c k : Int) (T : Tk) (a : Sk) : Bool × Tk × Sk := if numIs (tok b T.2.2.2) 0 4 then rdWr4 b c k (tok b T.2.2.2).2.2.1 (tok b T.2.2.2) a else (false, tok b T.2.2.2, a)
def rdWr2 (b : List Int) (c : Int) (T : Tk) (a : Sk) : Bool × Tk × Sk := if numIs (tok b T.2.2.2) 0 5 then rdWr3 b c (tok b T.2.2.2).2.2.1 (tok b T.2.2.2) a else (false, tok b T.2.2.2, a)
def rdWr (b : List Int) (T : Tk) (a : Sk) : Bool × Tk × Sk := if numIs (tok b T.2.2.2) 0 5 && sk_canW a (tok b T.2.2.2).2.2.1 then rdWr2 b (tok b T.2.2.2).2.2.1 (tok b T.2.2.2) a else (false, tok b T.2.2.2, a)
def rdIt (b : List Int) (T : Tk) (a : Sk) : Bool × Tk × Sk := if isWd b T 21 then rdWr b T a else if isWd b T 22 then rdRb b T a else if isWd b T 23 then rdYr b T a else (false, T, a)
def rdLp (b : List Int) : Nat → Tk → Sk → Int → Int × Tk × Sk
  | 0, T, a, n => (n, T, a)
  | f + 1, T, a, n => if T.2.1 = 0 then (n, T, a) else if (rdIt b T a).1 then (if (tok b (rdIt b T a).2.1.2.2.2).2.1 = 2 then rdLp b f (tok b (tok b (rdIt b T a).2.1.2.2.2).2.2.2) (rdIt b T a).2.2 (n + 1) else (-1, tok b (rdIt b T a).2.1.2.2.2, (rdIt b T a).2.2)) else (-1, (rdIt b T a).2.1, (rdIt b T a).2.2)
def rdAll (b : List Int) : Int × Tk × Sk := if isWd b (tok b 0) 20 then (if (tok b (tok b 0).2.2.2).2.1 = 2 then rdLp b 150 (tok b (tok b (tok b 0).2.2.2).2.2.2) sk_0 1 else (-1, tok b (tok b 0).2.2.2, sk_0)) else (-1, tok b 0, sk_0)
def sp_X7_within : zSpec := fun kd as M K => match as with
  | [.inl x, .inl i, .inl n] => ∀ v : Int32, (v = zp (i.toInt ≤ x.toInt ∧ x.toInt ≤ n.toInt)) → K (some (.inl v)) M
  | _ => False
theorem dd_X7_within_0 : decode cX7_within 0 = .ok (.iload_n 0, 1) := by decide +kernel
theorem dd_X7_within_1 : decode cX7_within 1 = .ok (.iload_n 1, 1) := by decide +kernel
theorem dd_X7_within_2 : decode cX7_within 2 = .ok (.if_icmp .lt 12, 3) := by decide +kernel
theorem dd_X7_within_5 : decode cX7_within 5 = .ok (.iload_n 0, 1) := by decide +kernel
theorem dd_X7_within_6 : decode cX7_within 6 = .ok (.iload_n 2, 1) := by decide +kernel
theorem dd_X7_within_7 : decode cX7_within 7 = .ok (.if_icmp .gt 7, 3) := by decide +kernel
theorem dd_X7_within_10 : decode cX7_within 10 = .ok (.iconst 1, 1) := by decide +kernel
theorem dd_X7_within_11 : decode cX7_within 11 = .ok (.goto 4, 3) := by decide +kernel
theorem dd_X7_within_14 : decode cX7_within 14 = .ok (.iconst 0, 1) := by decide +kernel
theorem dd_X7_within_15 : decode cX7_within 15 = .ok (.ireturn, 1) := by decide +kernel
def tb_X7_within (kd : Nat → Nat) (K : zK) : zTab := [(0, zt_iload 0 1), (1, zt_iload 1 2), (2, zt_icmp (fun x y => x < y) (fun x y => ¬ x < y) 14 5), (5, zt_iload 0 6), (6, zt_iload 2 7), (7, zt_icmp (fun x y => y < x) (fun x y => ¬ y < x) 14 10), (10, zt_const (zI 1) 11), (11, zt_goto 15), (14, zt_const (zI 0) 15), (15, zt_zret K)]
set_option maxRecDepth 20000 in
theorem tk_X7_within (d : Nat)  : zTrue RX7 cX7_within 3 (some .boolean) (d + 1) (fun kd K => tb_X7_within kd K) := by
  intro p l e R s m args below meth c D cy A ad bl Qm K C0 hr hlocks hQ
  obtain ⟨hx, hb, hml, hown, hts, hK, hD, hA0, hN, hE, ⟨hR1, hR2⟩, hc1, hc2⟩ := id C0
  unfold tb_X7_within
  refine List.forall_mem_cons.mpr ⟨ok_iload_n hx hb rfl dd_X7_within_0, ?_⟩
  refine List.forall_mem_cons.mpr ⟨ok_iload_n hx hb rfl dd_X7_within_1, ?_⟩
  refine List.forall_mem_cons.mpr ⟨ok_icmp_lt hx hb dd_X7_within_2 (by decide), ?_⟩
  refine List.forall_mem_cons.mpr ⟨ok_iload_n hx hb rfl dd_X7_within_5, ?_⟩
  refine List.forall_mem_cons.mpr ⟨ok_iload_n hx hb rfl dd_X7_within_6, ?_⟩
  refine List.forall_mem_cons.mpr ⟨ok_icmp_gt hx hb dd_X7_within_7 (by decide), ?_⟩
  refine List.forall_mem_cons.mpr ⟨ok_iconst hx hb dd_X7_within_10 (by decide), ?_⟩
  refine List.forall_mem_cons.mpr ⟨ok_goto hx hb dd_X7_within_11 (by decide), ?_⟩
  refine List.forall_mem_cons.mpr ⟨ok_iconst hx hb dd_X7_within_14 (by decide), ?_⟩
  refine List.forall_mem_cons.mpr ⟨ok_zret hx hb hr hlocks hQ dd_X7_within_15, ?_⟩
  exact fun _ h => absurd h List.not_mem_nil
set_option maxRecDepth 100000 in
theorem vc_X7_within_0 {kd : Nat → Nat} {K : zK} {X : zX} (hX : ∀ (n pc : Nat) (ls : zLS) (st : List zV) (M : zM), zrun (tb_X7_within kd K) [] n X pc ls st M → X pc ls st M) {x : Int32} {i : Int32} {n : Int32} {M : zM}  (h : ((x < i) → K (some (zI ((0 : Int32)))) M) ∧ ((¬ x < i) → ((n < x) → K (some (zI ((0 : Int32)))) M) ∧ ((¬ n < x) → K (some (zI ((1 : Int32)))) M))) : X 0 [some (zI (x)), some (zI (i)), some (zI (n))] [] M := hX 10 0 _ [] M (show ((x < i) → ((0 : Int32) = 0 ∨ (0 : Int32) = 1) ∧ K (some (zI ((0 : Int32)))) M) ∧ ((¬ x < i) → ((n < x) → ((0 : Int32) = 0 ∨ (0 : Int32) = 1) ∧ K (some (zI ((0 : Int32)))) M) ∧ ((¬ n < x) → ((1 : Int32) = 0 ∨ (1 : Int32) = 1) ∧ K (some (zI ((1 : Int32)))) M)) from ⟨fun q => have h := h.1 q; ⟨(Or.inl rfl), h⟩, fun q => have h := h.2 q; ⟨fun q => have h := h.1 q; ⟨(Or.inl rfl), h⟩, fun q => have h := h.2 q; ⟨(Or.inr rfl), h⟩⟩⟩)
def sp_X1_stops : zSpec := fun kd as M K => match as with
  | [.inr (.inr (.inl (t, 0)))] => (kd t = 7) ∧ ∃ b : List Int, ∃ T : Tk, (RpK (M.1 t) b T) ∧ ∀ v : Int32, (v = zp ((tok b T.2.2.2).2.1 = 2)) → ∀ S' : zB, (RpK S' b (tok b T.2.2.2)) → ∀ M' : zM, (M' = zbs M t S') → K (some (.inl v)) M'
  | _ => False
theorem dd_X1_stops_0 : decode cX1_stops 0 = .ok (.aload_n 0, 1) := by decide +kernel
theorem dd_X1_stops_1 : decode cX1_stops 1 = .ok (.invokevirtual 31, 3) := by decide +kernel
theorem dd_X1_stops_4 : decode cX1_stops 4 = .ok (.aload_n 0, 1) := by decide +kernel
theorem dd_X1_stops_5 : decode cX1_stops 5 = .ok (.getfield 34, 3) := by decide +kernel
theorem dd_X1_stops_8 : decode cX1_stops 8 = .ok (.iconst 2, 1) := by decide +kernel
theorem dd_X1_stops_9 : decode cX1_stops 9 = .ok (.if_icmp .ne 7, 3) := by decide +kernel
theorem dd_X1_stops_12 : decode cX1_stops 12 = .ok (.iconst 1, 1) := by decide +kernel
theorem dd_X1_stops_13 : decode cX1_stops 13 = .ok (.goto 4, 3) := by decide +kernel
theorem dd_X1_stops_16 : decode cX1_stops 16 = .ok (.iconst 0, 1) := by decide +kernel
theorem dd_X1_stops_17 : decode cX1_stops 17 = .ok (.ireturn, 1) := by decide +kernel
def tb_X1_stops (kd : Nat → Nat) (K : zK) : zTab := [(0, zt_aload 0 1), (1, zt_call kd sp_X5_cutNext 1 4), (4, zt_aload 0 5), (5, zt_getI kd 7 4 8), (8, zt_const (zI 2) 9), (9, zt_icmp (fun x y => ¬ x = y) (fun x y => x = y) 16 12), (12, zt_const (zI 1) 13), (13, zt_goto 17), (16, zt_const (zI 0) 17), (17, zt_zret K)]
set_option maxRecDepth 20000 in
theorem tk_X1_stops (d : Nat) (h_X5_cutNext : zMS 3 yX5_cutNext cX5_cutNext 2 none sp_X5_cutNext) : zTrue RX1 cX1_stops 1 (some .boolean) (d + 4) (fun kd K => tb_X1_stops kd K) := by
  intro p l e R s m args below meth c D cy A ad bl Qm K C0 hr hlocks hQ
  obtain ⟨hx, hb, hml, hown, hts, hK, hD, hA0, hN, hE, ⟨hR1, hR2⟩, hc1, hc2⟩ := id C0
  unfold tb_X1_stops
  refine List.forall_mem_cons.mpr ⟨ok_aload_n hx hb rfl dd_X1_stops_0, ?_⟩
  refine List.forall_mem_cons.mpr ⟨ok_callVN (n := 0) zc_X5 rv_X5_cutNext C0 (h_X5_cutNext (d + 3) (by omega)) (by decide) wd_422 nd_497 wd_421 wd_17 wd_106 ⟨by decide +kernel, by decide +kernel, by decide +kernel⟩ dd_X1_stops_1, ?_⟩
  refine List.forall_mem_cons.mpr ⟨ok_aload_n hx hb rfl dd_X1_stops_4, ?_⟩
  refine List.forall_mem_cons.mpr ⟨ok_getIN (j := 4) hx hb hts zi_X5 hown hK zc_X5 (by decide) rfl (fun t fl h => by cases h; rfl) (va_Nw.use rfl (hN _ nd_254)) dd_X1_stops_5, ?_⟩
  refine List.forall_mem_cons.mpr ⟨ok_iconst hx hb dd_X1_stops_8 (by decide), ?_⟩
  refine List.forall_mem_cons.mpr ⟨ok_icmp_ne hx hb dd_X1_stops_9 (by decide), ?_⟩
  refine List.forall_mem_cons.mpr ⟨ok_iconst hx hb dd_X1_stops_12 (by decide), ?_⟩
  refine List.forall_mem_cons.mpr ⟨ok_goto hx hb dd_X1_stops_13 (by decide), ?_⟩
  refine List.forall_mem_cons.mpr ⟨ok_iconst hx hb dd_X1_stops_16 (by decide), ?_⟩
  refine List.forall_mem_cons.mpr ⟨ok_zret hx hb hr hlocks hQ dd_X1_stops_17, ?_⟩
  exact fun _ h => absurd h List.not_mem_nil
set_option maxRecDepth 100000 in
theorem vc_X1_stops_0 {kd : Nat → Nat} {K : zK} {X : zX} (hX : ∀ (n pc : Nat) (ls : zLS) (st : List zV) (M : zM), zrun (tb_X1_stops kd K) [] n X pc ls st M → X pc ls st M) {t : Nat} {M : zM} (hk0 : kd t = 7) (h : ∃ b1 : List Int, (RpB (M.1 t) b1) ∧ ∃ p1 : Nat, ((M.1 t 0 2).toInt = (p1 : Int)) ∧ (p1 ≤ b1.length) ∧ ∀ S1 : zB, (RpK S1 b1 (tok b1 p1)) → ∀ M1 : zM, (M1 = zbs M t S1) → ((¬ (M1.1 t 0 4) = (2 : Int32)) → K (some (zI ((0 : Int32)))) M1) ∧ (((M1.1 t 0 4) = (2 : Int32)) → K (some (zI ((1 : Int32)))) M1)) : X 0 [some (zR t 0)] [] M := hX 10 0 _ [] M (show (kd t = 7) ∧ ∃ b1 : List Int, (RpB (M.1 t) b1) ∧ ∃ p1 : Nat, ((M.1 t 0 2).toInt = (p1 : Int)) ∧ (p1 ≤ b1.length) ∧ ∀ S1 : zB, (RpK S1 b1 (tok b1 p1)) → ∀ M1 : zM, (M1 = zbs M t S1) → (kd t = 7) ∧ ((¬ (M1.1 t 0 4) = (2 : Int32)) → ((0 : Int32) = 0 ∨ (0 : Int32) = 1) ∧ K (some (zI ((0 : Int32)))) M1) ∧ (((M1.1 t 0 4) = (2 : Int32)) → ((1 : Int32) = 0 ∨ (1 : Int32) = 1) ∧ K (some (zI ((1 : Int32)))) M1) from ⟨hk0, h.elim (fun b1 h => ⟨b1, ⟨h.1, have h := h.2; h.elim (fun p1 h => ⟨p1, ⟨h.1, have h := h.2; ⟨h.1, have h := h.2; fun S1 => have h := h S1; fun q => have h := h q; fun M1 => have h := h M1; fun q => have h := h q; ⟨hk0, ⟨fun q => have h := h.1 q; ⟨(Or.inl rfl), h⟩, fun q => have h := h.2 q; ⟨(Or.inr rfl), h⟩⟩⟩⟩⟩⟩)⟩⟩)⟩)
def sp_X1_numberIs : zSpec := fun kd as M K => match as with
  | [.inr (.inr (.inl (t, 0))), .inl i, .inl n] => (kd t = 7) ∧ ∃ b : List Int, ∃ T : Tk, (RpK (M.1 t) b T) ∧ ∀ v : Int32, (v = zp (numIs (tok b T.2.2.2) i.toInt n.toInt = true)) → ∀ S' : zB, (RpK S' b (tok b T.2.2.2)) → ∀ M' : zM, (M' = zbs M t S') → K (some (.inl v)) M'
  | _ => False
theorem dd_X1_numberIs_0 : decode cX1_numberIs 0 = .ok (.aload_n 0, 1) := by decide +kernel
theorem dd_X1_numberIs_1 : decode cX1_numberIs 1 = .ok (.invokevirtual 31, 3) := by decide +kernel
theorem dd_X1_numberIs_4 : decode cX1_numberIs 4 = .ok (.aload_n 0, 1) := by decide +kernel
theorem dd_X1_numberIs_5 : decode cX1_numberIs 5 = .ok (.getfield 34, 3) := by decide +kernel
theorem dd_X1_numberIs_8 : decode cX1_numberIs 8 = .ok (.iconst 3, 1) := by decide +kernel
theorem dd_X1_numberIs_9 : decode cX1_numberIs 9 = .ok (.if_icmp .ne 19, 3) := by decide +kernel
theorem dd_X1_numberIs_12 : decode cX1_numberIs 12 = .ok (.aload_n 0, 1) := by decide +kernel
theorem dd_X1_numberIs_13 : decode cX1_numberIs 13 = .ok (.getfield 61, 3) := by decide +kernel
theorem dd_X1_numberIs_16 : decode cX1_numberIs 16 = .ok (.iload_n 1, 1) := by decide +kernel
theorem dd_X1_numberIs_17 : decode cX1_numberIs 17 = .ok (.iload_n 2, 1) := by decide +kernel
theorem dd_X1_numberIs_18 : decode cX1_numberIs 18 = .ok (.invokestatic 83, 3) := by decide +kernel
theorem dd_X1_numberIs_21 : decode cX1_numberIs 21 = .ok (.ifCond .eq 7, 3) := by decide +kernel
theorem dd_X1_numberIs_24 : decode cX1_numberIs 24 = .ok (.iconst 1, 1) := by decide +kernel
theorem dd_X1_numberIs_25 : decode cX1_numberIs 25 = .ok (.goto 4, 3) := by decide +kernel
theorem dd_X1_numberIs_28 : decode cX1_numberIs 28 = .ok (.iconst 0, 1) := by decide +kernel
theorem dd_X1_numberIs_29 : decode cX1_numberIs 29 = .ok (.ireturn, 1) := by decide +kernel
def tb_X1_numberIs (kd : Nat → Nat) (K : zK) : zTab := [(0, zt_aload 0 1), (1, zt_call kd sp_X5_cutNext 1 4), (4, zt_aload 0 5), (5, zt_getI kd 7 4 8), (8, zt_const (zI 3) 9), (9, zt_icmp (fun x y => ¬ x = y) (fun x y => x = y) 28 12), (12, zt_aload 0 13), (13, zt_getI kd 7 5 16), (16, zt_iload 1 17), (17, zt_iload 2 18), (18, zt_call kd sp_X7_within 3 21), (21, zt_if (fun x => x = 0) (fun x => ¬ x = 0) 28 24), (24, zt_const (zI 1) 25), (25, zt_goto 29), (28, zt_const (zI 0) 29), (29, zt_zret K)]
set_option maxRecDepth 20000 in
theorem tk_X1_numberIs (d : Nat) (h_X5_cutNext : zMS 3 yX5_cutNext cX5_cutNext 2 none sp_X5_cutNext) (h_X7_within : zMS 1 yX7_within cX7_within 3 (some .boolean) sp_X7_within) : zTrue RX1 cX1_numberIs 3 (some .boolean) (d + 4) (fun kd K => tb_X1_numberIs kd K) := by
  intro p l e R s m args below meth c D cy A ad bl Qm K C0 hr hlocks hQ
  obtain ⟨hx, hb, hml, hown, hts, hK, hD, hA0, hN, hE, ⟨hR1, hR2⟩, hc1, hc2⟩ := id C0
  unfold tb_X1_numberIs
  refine List.forall_mem_cons.mpr ⟨ok_aload_n hx hb rfl dd_X1_numberIs_0, ?_⟩
  refine List.forall_mem_cons.mpr ⟨ok_callVN (n := 0) zc_X5 rv_X5_cutNext C0 (h_X5_cutNext (d + 3) (by omega)) (by decide) wd_422 nd_497 wd_421 wd_17 wd_106 ⟨by decide +kernel, by decide +kernel, by decide +kernel⟩ dd_X1_numberIs_1, ?_⟩
  refine List.forall_mem_cons.mpr ⟨ok_aload_n hx hb rfl dd_X1_numberIs_4, ?_⟩
  refine List.forall_mem_cons.mpr ⟨ok_getIN (j := 4) hx hb hts zi_X5 hown hK zc_X5 (by decide) rfl (fun t fl h => by cases h; rfl) (va_Nw.use rfl (hN _ nd_254)) dd_X1_numberIs_5, ?_⟩
  refine List.forall_mem_cons.mpr ⟨ok_iconst hx hb dd_X1_numberIs_8 (by decide), ?_⟩
  refine List.forall_mem_cons.mpr ⟨ok_icmp_ne hx hb dd_X1_numberIs_9 (by decide), ?_⟩
  refine List.forall_mem_cons.mpr ⟨ok_aload_n hx hb rfl dd_X1_numberIs_12, ?_⟩
  refine List.forall_mem_cons.mpr ⟨ok_getIN (j := 5) hx hb hts zi_X5 hown hK zc_X5 (by decide) rfl (fun t fl h => by cases h; rfl) (va_Nw.use rfl (hN _ nd_256)) dd_X1_numberIs_13, ?_⟩
  refine List.forall_mem_cons.mpr ⟨ok_iload_n hx hb rfl dd_X1_numberIs_16, ?_⟩
  refine List.forall_mem_cons.mpr ⟨ok_iload_n hx hb rfl dd_X1_numberIs_17, ?_⟩
  refine List.forall_mem_cons.mpr ⟨ok_callSN (n := 3) C0 (h_X7_within (d + 3) (by omega)) (by decide) wd_321 nd_508 wd_320 wd_100 ⟨by decide +kernel, by decide +kernel, by decide +kernel⟩ dd_X1_numberIs_18, ?_⟩
  refine List.forall_mem_cons.mpr ⟨ok_if_eq hx hb dd_X1_numberIs_21 (by decide), ?_⟩
  refine List.forall_mem_cons.mpr ⟨ok_iconst hx hb dd_X1_numberIs_24 (by decide), ?_⟩
  refine List.forall_mem_cons.mpr ⟨ok_goto hx hb dd_X1_numberIs_25 (by decide), ?_⟩
  refine List.forall_mem_cons.mpr ⟨ok_iconst hx hb dd_X1_numberIs_28 (by decide), ?_⟩
  refine List.forall_mem_cons.mpr ⟨ok_zret hx hb hr hlocks hQ dd_X1_numberIs_29, ?_⟩
  exact fun _ h => absurd h List.not_mem_nil
set_option maxRecDepth 100000 in
theorem vc_X1_numberIs_0 {kd : Nat → Nat} {K : zK} {X : zX} (hX : ∀ (n pc : Nat) (ls : zLS) (st : List zV) (M : zM), zrun (tb_X1_numberIs kd K) [] n X pc ls st M → X pc ls st M) {t : Nat} {i : Int32} {n : Int32} {M : zM} (hk0 : kd t = 7) (h : ∃ b1 : List Int, (RpB (M.1 t) b1) ∧ ∃ p1 : Nat, ((M.1 t 0 2).toInt = (p1 : Int)) ∧ (p1 ≤ b1.length) ∧ ∀ S1 : zB, (RpK S1 b1 (tok b1 p1)) → ∀ M1 : zM, (M1 = zbs M t S1) → ((¬ (M1.1 t 0 4) = (3 : Int32)) → K (some (zI ((0 : Int32)))) M1) ∧ (((M1.1 t 0 4) = (3 : Int32)) → ∀ v2 : Int32, (v2 = zp (i.toInt ≤ (M1.1 t 0 5).toInt ∧ (M1.1 t 0 5).toInt ≤ n.toInt)) → ((v2 = 0) → K (some (zI ((0 : Int32)))) M1) ∧ ((¬ v2 = 0) → K (some (zI ((1 : Int32)))) M1))) : X 0 [some (zR t 0), some (zI (i)), some (zI (n))] [] M := hX 16 0 _ [] M (show (kd t = 7) ∧ ∃ b1 : List Int, (RpB (M.1 t) b1) ∧ ∃ p1 : Nat, ((M.1 t 0 2).toInt = (p1 : Int)) ∧ (p1 ≤ b1.length) ∧ ∀ S1 : zB, (RpK S1 b1 (tok b1 p1)) → ∀ M1 : zM, (M1 = zbs M t S1) → (kd t = 7) ∧ ((¬ (M1.1 t 0 4) = (3 : Int32)) → ((0 : Int32) = 0 ∨ (0 : Int32) = 1) ∧ K (some (zI ((0 : Int32)))) M1) ∧ (((M1.1 t 0 4) = (3 : Int32)) → (kd t = 7) ∧ ∀ v2 : Int32, (v2 = zp (i.toInt ≤ (M1.1 t 0 5).toInt ∧ (M1.1 t 0 5).toInt ≤ n.toInt)) → ((v2 = 0) → ((0 : Int32) = 0 ∨ (0 : Int32) = 1) ∧ K (some (zI ((0 : Int32)))) M1) ∧ ((¬ v2 = 0) → ((1 : Int32) = 0 ∨ (1 : Int32) = 1) ∧ K (some (zI ((1 : Int32)))) M1)) from ⟨hk0, h.elim (fun b1 h => ⟨b1, ⟨h.1, have h := h.2; h.elim (fun p1 h => ⟨p1, ⟨h.1, have h := h.2; ⟨h.1, have h := h.2; fun S1 => have h := h S1; fun q => have h := h q; fun M1 => have h := h M1; fun q => have h := h q; ⟨hk0, ⟨fun q => have h := h.1 q; ⟨(Or.inl rfl), h⟩, fun q => have h := h.2 q; ⟨hk0, fun v2 => have h := h v2; fun q => have h := h q; ⟨fun q => have h := h.1 q; ⟨(Or.inl rfl), h⟩, fun q => have h := h.2 q; ⟨(Or.inr rfl), h⟩⟩⟩⟩⟩⟩⟩⟩)⟩⟩)⟩)
def sp_X1_yearsOnto : zSpec := fun kd as M K => match as with
  | [.inr (.inr (.inl (t, 0))), .inr (.inr (.inl (u, 0)))] => (kd t = 7) ∧ (kd u = 3) ∧ ∃ b : List Int, ∃ T : Tk, (RpK (M.1 t) b T) ∧ ∃ a : Sk, (RpS (M.1 u) a) ∧ ∀ v : Int32, (v = zp ((rdYr b T a).1 = true)) → ∀ S1 : zB, (RpK S1 b (rdYr b T a).2.1) → ∀ S2 : zB, (RpS S2 (rdYr b T a).2.2) → ∀ M' : zM, (M' = zbs (zbs M t S1) u S2) → K (some (.inl v)) M'
  | _ => False
theorem dd_X1_yearsOnto_0 : decode cX1_yearsOnto 0 = .ok (.aload_n 0, 1) := by decide +kernel
theorem dd_X1_yearsOnto_1 : decode cX1_yearsOnto 1 = .ok (.iconst 1, 1) := by decide +kernel
theorem dd_X1_yearsOnto_2 : decode cX1_yearsOnto 2 = .ok (.bipush 99, 2) := by decide +kernel
theorem dd_X1_yearsOnto_4 : decode cX1_yearsOnto 4 = .ok (.invokestatic 57, 3) := by decide +kernel
theorem dd_X1_yearsOnto_7 : decode cX1_yearsOnto 7 = .ok (.ifCond .ne 5, 3) := by decide +kernel
theorem dd_X1_yearsOnto_10 : decode cX1_yearsOnto 10 = .ok (.iconst 0, 1) := by decide +kernel
theorem dd_X1_yearsOnto_11 : decode cX1_yearsOnto 11 = .ok (.ireturn, 1) := by decide +kernel
theorem dd_X1_yearsOnto_12 : decode cX1_yearsOnto 12 = .ok (.aload_n 1, 1) := by decide +kernel
theorem dd_X1_yearsOnto_13 : decode cX1_yearsOnto 13 = .ok (.aload_n 0, 1) := by decide +kernel
theorem dd_X1_yearsOnto_14 : decode cX1_yearsOnto 14 = .ok (.getfield 61, 3) := by decide +kernel
theorem dd_X1_yearsOnto_17 : decode cX1_yearsOnto 17 = .ok (.invokevirtual 79, 3) := by decide +kernel
theorem dd_X1_yearsOnto_20 : decode cX1_yearsOnto 20 = .ok (.iconst 1, 1) := by decide +kernel
theorem dd_X1_yearsOnto_21 : decode cX1_yearsOnto 21 = .ok (.ireturn, 1) := by decide +kernel
def tb_X1_yearsOnto (kd : Nat → Nat) (K : zK) : zTab := [(0, zt_aload 0 1), (1, zt_const (zI 1) 2), (2, zt_const (zI 99) 4), (4, zt_call kd sp_X1_numberIs 3 7), (7, zt_if (fun x => ¬ x = 0) (fun x => x = 0) 12 10), (10, zt_const (zI 0) 11), (11, zt_zret K), (12, zt_aload 1 13), (13, zt_aload 0 14), (14, zt_getI kd 7 5 17), (17, zt_call kd sp_X3_pass 2 20), (20, zt_const (zI 1) 21), (21, zt_zret K)]
set_option maxRecDepth 20000 in
theorem tk_X1_yearsOnto (d : Nat) (h_X1_numberIs : zMS 4 yX1_numberIs cX1_numberIs 3 (some .boolean) sp_X1_numberIs) (h_X3_pass : zMS 1 yX3_pass cX3_pass 2 none sp_X3_pass) : zTrue RX1 cX1_yearsOnto 2 (some .boolean) (d + 5) (fun kd K => tb_X1_yearsOnto kd K) := by
  intro p l e R s m args below meth c D cy A ad bl Qm K C0 hr hlocks hQ
  obtain ⟨hx, hb, hml, hown, hts, hK, hD, hA0, hN, hE, ⟨hR1, hR2⟩, hc1, hc2⟩ := id C0
  unfold tb_X1_yearsOnto
  refine List.forall_mem_cons.mpr ⟨ok_aload_n hx hb rfl dd_X1_yearsOnto_0, ?_⟩
  refine List.forall_mem_cons.mpr ⟨ok_iconst hx hb dd_X1_yearsOnto_1 (by decide), ?_⟩
  refine List.forall_mem_cons.mpr ⟨ok_bipush hx hb dd_X1_yearsOnto_2 (by decide), ?_⟩
  refine List.forall_mem_cons.mpr ⟨ok_callS (n := 3) C0 (h_X1_numberIs (d + 4) (by omega)) (by decide) wd_507 wd_505 wd_506 wd_110 ⟨by decide +kernel, by decide +kernel, by decide +kernel⟩ dd_X1_yearsOnto_4, ?_⟩
  refine List.forall_mem_cons.mpr ⟨ok_if_ne hx hb dd_X1_yearsOnto_7 (by decide), ?_⟩
  refine List.forall_mem_cons.mpr ⟨ok_iconst hx hb dd_X1_yearsOnto_10 (by decide), ?_⟩
  refine List.forall_mem_cons.mpr ⟨ok_zret hx hb hr hlocks hQ dd_X1_yearsOnto_11, ?_⟩
  refine List.forall_mem_cons.mpr ⟨ok_aload_n hx hb rfl dd_X1_yearsOnto_12, ?_⟩
  refine List.forall_mem_cons.mpr ⟨ok_aload_n hx hb rfl dd_X1_yearsOnto_13, ?_⟩
  refine List.forall_mem_cons.mpr ⟨ok_getIN (j := 5) hx hb hts zi_X5 hown hK zc_X5 (by decide) rfl (fun t fl h => by cases h; rfl) (va_Nw.use rfl (hN _ nd_256)) dd_X1_yearsOnto_14, ?_⟩
  refine List.forall_mem_cons.mpr ⟨ok_callVN (n := 1) zc_X3 rv_X3_pass C0 (h_X3_pass (d + 4) (by omega)) (by decide) wd_372 nd_521 wd_371 wd_11 wd_102 ⟨by decide +kernel, by decide +kernel, by decide +kernel⟩ dd_X1_yearsOnto_17, ?_⟩
  refine List.forall_mem_cons.mpr ⟨ok_iconst hx hb dd_X1_yearsOnto_20 (by decide), ?_⟩
  refine List.forall_mem_cons.mpr ⟨ok_zret hx hb hr hlocks hQ dd_X1_yearsOnto_21, ?_⟩
  exact fun _ h => absurd h List.not_mem_nil
set_option maxRecDepth 100000 in
theorem vc_X1_yearsOnto_0 {kd : Nat → Nat} {K : zK} {X : zX} (hX : ∀ (n pc : Nat) (ls : zLS) (st : List zV) (M : zM), zrun (tb_X1_yearsOnto kd K) [] n X pc ls st M → X pc ls st M) {t : Nat} {u : Nat} {M : zM} (hk0 : kd u = 3) (hk1 : kd t = 7) (h : ∃ b1 : List Int, ∃ T1 : Tk, (RpK (M.1 t) b1 T1) ∧ ∀ v1 : Int32, (v1 = zp (numIs (tok b1 T1.2.2.2) (1 : Int32).toInt (99 : Int32).toInt = true)) → ∀ S1 : zB, (RpK S1 b1 (tok b1 T1.2.2.2)) → ∀ M1 : zM, (M1 = zbs M t S1) → ((¬ v1 = 0) → ∃ a2 : Sk, (RpS (M1.1 u) a2) ∧ (0 ≤ (M1.1 t 0 5).toInt ∧ (M1.1 t 0 5).toInt ≤ 99) ∧ ∀ S2 : zB, (RpS S2 (sk_yr a2 (M1.1 t 0 5).toInt)) → ∀ M2 : zM, (M2 = zbs M1 u S2) → K (some (zI ((1 : Int32)))) M2) ∧ ((v1 = 0) → K (some (zI ((0 : Int32)))) M1)) : X 0 [some (zR t 0), some (zR u 0)] [] M := hX 12 0 _ [] M (show (kd t = 7) ∧ ∃ b1 : List Int, ∃ T1 : Tk, (RpK (M.1 t) b1 T1) ∧ ∀ v1 : Int32, (v1 = zp (numIs (tok b1 T1.2.2.2) (1 : Int32).toInt (99 : Int32).toInt = true)) → ∀ S1 : zB, (RpK S1 b1 (tok b1 T1.2.2.2)) → ∀ M1 : zM, (M1 = zbs M t S1) → ((¬ v1 = 0) → (kd t = 7) ∧ (kd u = 3) ∧ ∃ a2 : Sk, (RpS (M1.1 u) a2) ∧ (0 ≤ (M1.1 t 0 5).toInt ∧ (M1.1 t 0 5).toInt ≤ 99) ∧ ∀ S2 : zB, (RpS S2 (sk_yr a2 (M1.1 t 0 5).toInt)) → ∀ M2 : zM, (M2 = zbs M1 u S2) → ((1 : Int32) = 0 ∨ (1 : Int32) = 1) ∧ K (some (zI ((1 : Int32)))) M2) ∧ ((v1 = 0) → ((0 : Int32) = 0 ∨ (0 : Int32) = 1) ∧ K (some (zI ((0 : Int32)))) M1) from ⟨hk1, h.elim (fun b1 h => ⟨b1, h.elim (fun T1 h => ⟨T1, ⟨h.1, have h := h.2; fun v1 => have h := h v1; fun q => have h := h q; fun S1 => have h := h S1; fun q => have h := h q; fun M1 => have h := h M1; fun q => have h := h q; ⟨fun q => have h := h.1 q; ⟨hk1, ⟨hk0, h.elim (fun a2 h => ⟨a2, ⟨h.1, have h := h.2; ⟨h.1, have h := h.2; fun S2 => have h := h S2; fun q => have h := h q; fun M2 => have h := h M2; fun q => have h := h q; ⟨(Or.inr rfl), h⟩⟩⟩⟩)⟩⟩, fun q => have h := h.2 q; ⟨(Or.inl rfl), h⟩⟩⟩⟩)⟩)⟩)
def sp_X1_rubOnto : zSpec := fun kd as M K => match as with
  | [.inr (.inr (.inl (t, 0))), .inr (.inr (.inl (u, 0)))] => (kd t = 7) ∧ (kd u = 3) ∧ ∃ b : List Int, ∃ T : Tk, (RpK (M.1 t) b T) ∧ ∃ a : Sk, (RpS (M.1 u) a) ∧ ∀ v : Int32, (v = zp ((rdRb b T a).1 = true)) → ∀ S1 : zB, (RpK S1 b (rdRb b T a).2.1) → ∀ S2 : zB, (RpS S2 (rdRb b T a).2.2) → ∀ M' : zM, (M' = zbs (zbs M t S1) u S2) → K (some (.inl v)) M'
  | _ => False
theorem dd_X1_rubOnto_0 : decode cX1_rubOnto 0 = .ok (.aload_n 0, 1) := by decide +kernel
theorem dd_X1_rubOnto_1 : decode cX1_rubOnto 1 = .ok (.iconst 0, 1) := by decide +kernel
theorem dd_X1_rubOnto_2 : decode cX1_rubOnto 2 = .ok (.iconst 5, 1) := by decide +kernel
theorem dd_X1_rubOnto_3 : decode cX1_rubOnto 3 = .ok (.invokestatic 57, 3) := by decide +kernel
theorem dd_X1_rubOnto_6 : decode cX1_rubOnto 6 = .ok (.ifCond .eq 14, 3) := by decide +kernel
theorem dd_X1_rubOnto_9 : decode cX1_rubOnto 9 = .ok (.aload_n 1, 1) := by decide +kernel
theorem dd_X1_rubOnto_10 : decode cX1_rubOnto 10 = .ok (.aload_n 0, 1) := by decide +kernel
theorem dd_X1_rubOnto_11 : decode cX1_rubOnto 11 = .ok (.getfield 61, 3) := by decide +kernel
theorem dd_X1_rubOnto_14 : decode cX1_rubOnto 14 = .ok (.invokevirtual 72, 3) := by decide +kernel
theorem dd_X1_rubOnto_17 : decode cX1_rubOnto 17 = .ok (.ifCond .ne 5, 3) := by decide +kernel
theorem dd_X1_rubOnto_20 : decode cX1_rubOnto 20 = .ok (.iconst 0, 1) := by decide +kernel
theorem dd_X1_rubOnto_21 : decode cX1_rubOnto 21 = .ok (.ireturn, 1) := by decide +kernel
theorem dd_X1_rubOnto_22 : decode cX1_rubOnto 22 = .ok (.aload_n 1, 1) := by decide +kernel
theorem dd_X1_rubOnto_23 : decode cX1_rubOnto 23 = .ok (.aload_n 0, 1) := by decide +kernel
theorem dd_X1_rubOnto_24 : decode cX1_rubOnto 24 = .ok (.getfield 61, 3) := by decide +kernel
theorem dd_X1_rubOnto_27 : decode cX1_rubOnto 27 = .ok (.invokevirtual 75, 3) := by decide +kernel
theorem dd_X1_rubOnto_30 : decode cX1_rubOnto 30 = .ok (.pop, 1) := by decide +kernel
theorem dd_X1_rubOnto_31 : decode cX1_rubOnto 31 = .ok (.iconst 1, 1) := by decide +kernel
theorem dd_X1_rubOnto_32 : decode cX1_rubOnto 32 = .ok (.ireturn, 1) := by decide +kernel
def tb_X1_rubOnto (kd : Nat → Nat) (K : zK) : zTab := [(0, zt_aload 0 1), (1, zt_const (zI 0) 2), (2, zt_const (zI 5) 3), (3, zt_call kd sp_X1_numberIs 3 6), (6, zt_if (fun x => x = 0) (fun x => ¬ x = 0) 20 9), (9, zt_aload 1 10), (10, zt_aload 0 11), (11, zt_getI kd 7 5 14), (14, zt_call kd sp_X3_canScrape 2 17), (17, zt_if (fun x => ¬ x = 0) (fun x => x = 0) 22 20), (20, zt_const (zI 0) 21), (21, zt_zret K), (22, zt_aload 1 23), (23, zt_aload 0 24), (24, zt_getI kd 7 5 27), (27, zt_call kd sp_X3_scrape 2 30), (30, zt_pop 31), (31, zt_const (zI 1) 32), (32, zt_zret K)]
set_option maxRecDepth 20000 in
theorem tk_X1_rubOnto (d : Nat) (h_X1_numberIs : zMS 4 yX1_numberIs cX1_numberIs 3 (some .boolean) sp_X1_numberIs) (h_X3_canScrape : zMS 3 yX3_canScrape cX3_canScrape 3 (some .boolean) sp_X3_canScrape) (h_X3_scrape : zMS 3 yX3_scrape cX3_scrape 3 (some .int) sp_X3_scrape) : zTrue RX1 cX1_rubOnto 2 (some .boolean) (d + 5) (fun kd K => tb_X1_rubOnto kd K) := by
  intro p l e R s m args below meth c D cy A ad bl Qm K C0 hr hlocks hQ
  obtain ⟨hx, hb, hml, hown, hts, hK, hD, hA0, hN, hE, ⟨hR1, hR2⟩, hc1, hc2⟩ := id C0
  unfold tb_X1_rubOnto
  refine List.forall_mem_cons.mpr ⟨ok_aload_n hx hb rfl dd_X1_rubOnto_0, ?_⟩
  refine List.forall_mem_cons.mpr ⟨ok_iconst hx hb dd_X1_rubOnto_1 (by decide), ?_⟩
  refine List.forall_mem_cons.mpr ⟨ok_iconst hx hb dd_X1_rubOnto_2 (by decide), ?_⟩
  refine List.forall_mem_cons.mpr ⟨ok_callS (n := 3) C0 (h_X1_numberIs (d + 4) (by omega)) (by decide) wd_507 wd_505 wd_506 wd_110 ⟨by decide +kernel, by decide +kernel, by decide +kernel⟩ dd_X1_rubOnto_3, ?_⟩
  refine List.forall_mem_cons.mpr ⟨ok_if_eq hx hb dd_X1_rubOnto_6 (by decide), ?_⟩
  refine List.forall_mem_cons.mpr ⟨ok_aload_n hx hb rfl dd_X1_rubOnto_9, ?_⟩
  refine List.forall_mem_cons.mpr ⟨ok_aload_n hx hb rfl dd_X1_rubOnto_10, ?_⟩
  refine List.forall_mem_cons.mpr ⟨ok_getIN (j := 5) hx hb hts zi_X5 hown hK zc_X5 (by decide) rfl (fun t fl h => by cases h; rfl) (va_Nw.use rfl (hN _ nd_256)) dd_X1_rubOnto_11, ?_⟩
  refine List.forall_mem_cons.mpr ⟨ok_callVN (n := 1) zc_X3 rv_X3_canScrape C0 (h_X3_canScrape (d + 4) (by omega)) (by decide) wd_332 nd_515 wd_331 wd_4 wd_102 ⟨by decide +kernel, by decide +kernel, by decide +kernel⟩ dd_X1_rubOnto_14, ?_⟩
  refine List.forall_mem_cons.mpr ⟨ok_if_ne hx hb dd_X1_rubOnto_17 (by decide), ?_⟩
  refine List.forall_mem_cons.mpr ⟨ok_iconst hx hb dd_X1_rubOnto_20 (by decide), ?_⟩
  refine List.forall_mem_cons.mpr ⟨ok_zret hx hb hr hlocks hQ dd_X1_rubOnto_21, ?_⟩
  refine List.forall_mem_cons.mpr ⟨ok_aload_n hx hb rfl dd_X1_rubOnto_22, ?_⟩
  refine List.forall_mem_cons.mpr ⟨ok_aload_n hx hb rfl dd_X1_rubOnto_23, ?_⟩
  refine List.forall_mem_cons.mpr ⟨ok_getIN (j := 5) hx hb hts zi_X5 hown hK zc_X5 (by decide) rfl (fun t fl h => by cases h; rfl) (va_Nw.use rfl (hN _ nd_256)) dd_X1_rubOnto_24, ?_⟩
  refine List.forall_mem_cons.mpr ⟨ok_callVN (n := 1) zc_X3 rv_X3_scrape C0 (h_X3_scrape (d + 4) (by omega)) (by decide) wd_364 nd_516 wd_363 wd_10 wd_102 ⟨by decide +kernel, by decide +kernel, by decide +kernel⟩ dd_X1_rubOnto_27, ?_⟩
  refine List.forall_mem_cons.mpr ⟨ok_pop hx hb dd_X1_rubOnto_30, ?_⟩
  refine List.forall_mem_cons.mpr ⟨ok_iconst hx hb dd_X1_rubOnto_31 (by decide), ?_⟩
  refine List.forall_mem_cons.mpr ⟨ok_zret hx hb hr hlocks hQ dd_X1_rubOnto_32, ?_⟩
  exact fun _ h => absurd h List.not_mem_nil
set_option maxRecDepth 100000 in
theorem vc_X1_rubOnto_0 {kd : Nat → Nat} {K : zK} {X : zX} (hX : ∀ (n pc : Nat) (ls : zLS) (st : List zV) (M : zM), zrun (tb_X1_rubOnto kd K) [] n X pc ls st M → X pc ls st M) {t : Nat} {u : Nat} {M : zM} (hk0 : kd u = 3) (hk1 : kd t = 7) (h : ∃ b1 : List Int, ∃ T1 : Tk, (RpK (M.1 t) b1 T1) ∧ ∀ v1 : Int32, (v1 = zp (numIs (tok b1 T1.2.2.2) (0 : Int32).toInt (5 : Int32).toInt = true)) → ∀ S1 : zB, (RpK S1 b1 (tok b1 T1.2.2.2)) → ∀ M1 : zM, (M1 = zbs M t S1) → ((v1 = 0) → K (some (zI ((0 : Int32)))) M1) ∧ ((¬ v1 = 0) → ∃ a2 : Sk, (RpS (M1.1 u) a2) ∧ ∀ v2 : Int32, (v2 = zp (sk_canR a2 (M1.1 t 0 5).toInt = true)) → ((¬ v2 = 0) → ∃ a3 : Sk, (RpS (M1.1 u) a3) ∧ ∃ l3 : Ly, (sk_top a3 (M1.1 t 0 5).toInt = some l3) ∧ (l3.2.2.2.2 = -1) ∧ ∀ v3 : Int32, (v3.toInt = a3.2 - l3.2.2.2.1) → ∀ S3 : zB, (RpS S3 (sk_rub a3 (M1.1 t 0 5).toInt)) → ∀ M3 : zM, (M3 = zbs M1 u S3) → K (some (zI ((1 : Int32)))) M3) ∧ ((v2 = 0) → K (some (zI ((0 : Int32)))) M1))) : X 0 [some (zR t 0), some (zR u 0)] [] M := hX 18 0 _ [] M (show (kd t = 7) ∧ ∃ b1 : List Int, ∃ T1 : Tk, (RpK (M.1 t) b1 T1) ∧ ∀ v1 : Int32, (v1 = zp (numIs (tok b1 T1.2.2.2) (0 : Int32).toInt (5 : Int32).toInt = true)) → ∀ S1 : zB, (RpK S1 b1 (tok b1 T1.2.2.2)) → ∀ M1 : zM, (M1 = zbs M t S1) → ((v1 = 0) → ((0 : Int32) = 0 ∨ (0 : Int32) = 1) ∧ K (some (zI ((0 : Int32)))) M1) ∧ ((¬ v1 = 0) → (kd t = 7) ∧ (kd u = 3) ∧ ∃ a2 : Sk, (RpS (M1.1 u) a2) ∧ ∀ v2 : Int32, (v2 = zp (sk_canR a2 (M1.1 t 0 5).toInt = true)) → ((¬ v2 = 0) → (kd t = 7) ∧ (kd u = 3) ∧ ∃ a3 : Sk, (RpS (M1.1 u) a3) ∧ ∃ l3 : Ly, (sk_top a3 (M1.1 t 0 5).toInt = some l3) ∧ (l3.2.2.2.2 = -1) ∧ ∀ v3 : Int32, (v3.toInt = a3.2 - l3.2.2.2.1) → ∀ S3 : zB, (RpS S3 (sk_rub a3 (M1.1 t 0 5).toInt)) → ∀ M3 : zM, (M3 = zbs M1 u S3) → ((1 : Int32) = 0 ∨ (1 : Int32) = 1) ∧ K (some (zI ((1 : Int32)))) M3) ∧ ((v2 = 0) → ((0 : Int32) = 0 ∨ (0 : Int32) = 1) ∧ K (some (zI ((0 : Int32)))) M1)) from ⟨hk1, h.elim (fun b1 h => ⟨b1, h.elim (fun T1 h => ⟨T1, ⟨h.1, have h := h.2; fun v1 => have h := h v1; fun q => have h := h q; fun S1 => have h := h S1; fun q => have h := h q; fun M1 => have h := h M1; fun q => have h := h q; ⟨fun q => have h := h.1 q; ⟨(Or.inl rfl), h⟩, fun q => have h := h.2 q; ⟨hk1, ⟨hk0, h.elim (fun a2 h => ⟨a2, ⟨h.1, have h := h.2; fun v2 => have h := h v2; fun q => have h := h q; ⟨fun q => have h := h.1 q; ⟨hk1, ⟨hk0, h.elim (fun a3 h => ⟨a3, ⟨h.1, have h := h.2; h.elim (fun l3 h => ⟨l3, ⟨h.1, have h := h.2; ⟨h.1, have h := h.2; fun v3 => have h := h v3; fun q => have h := h q; fun S3 => have h := h S3; fun q => have h := h q; fun M3 => have h := h M3; fun q => have h := h q; ⟨(Or.inr rfl), h⟩⟩⟩⟩)⟩⟩)⟩⟩, fun q => have h := h.2 q; ⟨(Or.inl rfl), h⟩⟩⟩⟩)⟩⟩⟩⟩⟩)⟩)⟩)
def sp_X1_writeOnto : zSpec := fun kd as M K => match as with
  | [.inr (.inr (.inl (t, 0))), .inr (.inr (.inl (u, 0)))] => (kd t = 7) ∧ (kd u = 3) ∧ ∃ b : List Int, ∃ T : Tk, (RpK (M.1 t) b T) ∧ ∃ a : Sk, (RpS (M.1 u) a) ∧ ∀ v : Int32, (v = zp ((rdWr b T a).1 = true)) → ∀ S1 : zB, (RpK S1 b (rdWr b T a).2.1) → ∀ S2 : zB, (RpS S2 (rdWr b T a).2.2) → ∀ M' : zM, (M' = zbs (zbs M t S1) u S2) → K (some (.inl v)) M'
  | _ => False
theorem dd_X1_writeOnto_0 : decode cX1_writeOnto 0 = .ok (.aload_n 0, 1) := by decide +kernel
theorem dd_X1_writeOnto_1 : decode cX1_writeOnto 1 = .ok (.iconst 0, 1) := by decide +kernel
theorem dd_X1_writeOnto_2 : decode cX1_writeOnto 2 = .ok (.iconst 5, 1) := by decide +kernel
theorem dd_X1_writeOnto_3 : decode cX1_writeOnto 3 = .ok (.invokestatic 57, 3) := by decide +kernel
theorem dd_X1_writeOnto_6 : decode cX1_writeOnto 6 = .ok (.ifCond .eq 14, 3) := by decide +kernel
theorem dd_X1_writeOnto_9 : decode cX1_writeOnto 9 = .ok (.aload_n 1, 1) := by decide +kernel
theorem dd_X1_writeOnto_10 : decode cX1_writeOnto 10 = .ok (.aload_n 0, 1) := by decide +kernel
theorem dd_X1_writeOnto_11 : decode cX1_writeOnto 11 = .ok (.getfield 61, 3) := by decide +kernel
theorem dd_X1_writeOnto_14 : decode cX1_writeOnto 14 = .ok (.invokevirtual 64, 3) := by decide +kernel
theorem dd_X1_writeOnto_17 : decode cX1_writeOnto 17 = .ok (.ifCond .ne 5, 3) := by decide +kernel
theorem dd_X1_writeOnto_20 : decode cX1_writeOnto 20 = .ok (.iconst 0, 1) := by decide +kernel
theorem dd_X1_writeOnto_21 : decode cX1_writeOnto 21 = .ok (.ireturn, 1) := by decide +kernel
theorem dd_X1_writeOnto_22 : decode cX1_writeOnto 22 = .ok (.aload_n 0, 1) := by decide +kernel
theorem dd_X1_writeOnto_23 : decode cX1_writeOnto 23 = .ok (.getfield 61, 3) := by decide +kernel
theorem dd_X1_writeOnto_26 : decode cX1_writeOnto 26 = .ok (.istore_n 2, 1) := by decide +kernel
theorem dd_X1_writeOnto_27 : decode cX1_writeOnto 27 = .ok (.aload_n 0, 1) := by decide +kernel
theorem dd_X1_writeOnto_28 : decode cX1_writeOnto 28 = .ok (.iconst 0, 1) := by decide +kernel
theorem dd_X1_writeOnto_29 : decode cX1_writeOnto 29 = .ok (.iconst 5, 1) := by decide +kernel
theorem dd_X1_writeOnto_30 : decode cX1_writeOnto 30 = .ok (.invokestatic 57, 3) := by decide +kernel
theorem dd_X1_writeOnto_33 : decode cX1_writeOnto 33 = .ok (.ifCond .ne 5, 3) := by decide +kernel
theorem dd_X1_writeOnto_36 : decode cX1_writeOnto 36 = .ok (.iconst 0, 1) := by decide +kernel
theorem dd_X1_writeOnto_37 : decode cX1_writeOnto 37 = .ok (.ireturn, 1) := by decide +kernel
theorem dd_X1_writeOnto_38 : decode cX1_writeOnto 38 = .ok (.aload_n 0, 1) := by decide +kernel
theorem dd_X1_writeOnto_39 : decode cX1_writeOnto 39 = .ok (.getfield 61, 3) := by decide +kernel
theorem dd_X1_writeOnto_42 : decode cX1_writeOnto 42 = .ok (.istore_n 3, 1) := by decide +kernel
theorem dd_X1_writeOnto_43 : decode cX1_writeOnto 43 = .ok (.aload_n 0, 1) := by decide +kernel
theorem dd_X1_writeOnto_44 : decode cX1_writeOnto 44 = .ok (.iconst 0, 1) := by decide +kernel
theorem dd_X1_writeOnto_45 : decode cX1_writeOnto 45 = .ok (.iconst 4, 1) := by decide +kernel
theorem dd_X1_writeOnto_46 : decode cX1_writeOnto 46 = .ok (.invokestatic 57, 3) := by decide +kernel
theorem dd_X1_writeOnto_49 : decode cX1_writeOnto 49 = .ok (.ifCond .ne 5, 3) := by decide +kernel
theorem dd_X1_writeOnto_52 : decode cX1_writeOnto 52 = .ok (.iconst 0, 1) := by decide +kernel
theorem dd_X1_writeOnto_53 : decode cX1_writeOnto 53 = .ok (.ireturn, 1) := by decide +kernel
theorem dd_X1_writeOnto_54 : decode cX1_writeOnto 54 = .ok (.aload_n 0, 1) := by decide +kernel
theorem dd_X1_writeOnto_55 : decode cX1_writeOnto 55 = .ok (.getfield 61, 3) := by decide +kernel
theorem dd_X1_writeOnto_58 : decode cX1_writeOnto 58 = .ok (.istore 4, 2) := by decide +kernel
theorem dd_X1_writeOnto_60 : decode cX1_writeOnto 60 = .ok (.aload_n 0, 1) := by decide +kernel
theorem dd_X1_writeOnto_61 : decode cX1_writeOnto 61 = .ok (.iconst 0, 1) := by decide +kernel
theorem dd_X1_writeOnto_62 : decode cX1_writeOnto 62 = .ok (.iconst 1, 1) := by decide +kernel
theorem dd_X1_writeOnto_63 : decode cX1_writeOnto 63 = .ok (.invokestatic 57, 3) := by decide +kernel
theorem dd_X1_writeOnto_66 : decode cX1_writeOnto 66 = .ok (.ifCond .ne 5, 3) := by decide +kernel
theorem dd_X1_writeOnto_69 : decode cX1_writeOnto 69 = .ok (.iconst 0, 1) := by decide +kernel
theorem dd_X1_writeOnto_70 : decode cX1_writeOnto 70 = .ok (.ireturn, 1) := by decide +kernel
theorem dd_X1_writeOnto_71 : decode cX1_writeOnto 71 = .ok (.aload_n 1, 1) := by decide +kernel
theorem dd_X1_writeOnto_72 : decode cX1_writeOnto 72 = .ok (.iload_n 2, 1) := by decide +kernel
theorem dd_X1_writeOnto_73 : decode cX1_writeOnto 73 = .ok (.iload_n 3, 1) := by decide +kernel
theorem dd_X1_writeOnto_74 : decode cX1_writeOnto 74 = .ok (.iload 4, 2) := by decide +kernel
theorem dd_X1_writeOnto_76 : decode cX1_writeOnto 76 = .ok (.aload_n 0, 1) := by decide +kernel
theorem dd_X1_writeOnto_77 : decode cX1_writeOnto 77 = .ok (.getfield 61, 3) := by decide +kernel
theorem dd_X1_writeOnto_80 : decode cX1_writeOnto 80 = .ok (.invokevirtual 68, 3) := by decide +kernel
theorem dd_X1_writeOnto_83 : decode cX1_writeOnto 83 = .ok (.pop, 1) := by decide +kernel
theorem dd_X1_writeOnto_84 : decode cX1_writeOnto 84 = .ok (.iconst 1, 1) := by decide +kernel
theorem dd_X1_writeOnto_85 : decode cX1_writeOnto 85 = .ok (.ireturn, 1) := by decide +kernel
def tb_X1_writeOnto (kd : Nat → Nat) (K : zK) : zTab := [(0, zt_aload 0 1), (1, zt_const (zI 0) 2), (2, zt_const (zI 5) 3), (3, zt_call kd sp_X1_numberIs 3 6), (6, zt_if (fun x => x = 0) (fun x => ¬ x = 0) 20 9), (9, zt_aload 1 10), (10, zt_aload 0 11), (11, zt_getI kd 7 5 14), (14, zt_call kd sp_X3_canCover 2 17), (17, zt_if (fun x => ¬ x = 0) (fun x => x = 0) 22 20), (20, zt_const (zI 0) 21), (21, zt_zret K), (22, zt_aload 0 23), (23, zt_getI kd 7 5 26), (26, zt_istore 2 27), (27, zt_aload 0 28), (28, zt_const (zI 0) 29), (29, zt_const (zI 5) 30), (30, zt_call kd sp_X1_numberIs 3 33), (33, zt_if (fun x => ¬ x = 0) (fun x => x = 0) 38 36), (36, zt_const (zI 0) 37), (37, zt_zret K), (38, zt_aload 0 39), (39, zt_getI kd 7 5 42), (42, zt_istore 3 43), (43, zt_aload 0 44), (44, zt_const (zI 0) 45), (45, zt_const (zI 4) 46), (46, zt_call kd sp_X1_numberIs 3 49), (49, zt_if (fun x => ¬ x = 0) (fun x => x = 0) 54 52), (52, zt_const (zI 0) 53), (53, zt_zret K), (54, zt_aload 0 55), (55, zt_getI kd 7 5 58), (58, zt_istore 4 60), (60, zt_aload 0 61), (61, zt_const (zI 0) 62), (62, zt_const (zI 1) 63), (63, zt_call kd sp_X1_numberIs 3 66), (66, zt_if (fun x => ¬ x = 0) (fun x => x = 0) 71 69), (69, zt_const (zI 0) 70), (70, zt_zret K), (71, zt_aload 1 72), (72, zt_iload 2 73), (73, zt_iload 3 74), (74, zt_iload 4 76), (76, zt_aload 0 77), (77, zt_getI kd 7 5 80), (80, zt_call kd sp_X3_cover 5 83), (83, zt_pop 84), (84, zt_const (zI 1) 85), (85, zt_zret K)]
set_option maxRecDepth 20000 in
theorem tk_X1_writeOnto (d : Nat) (h_X1_numberIs : zMS 4 yX1_numberIs cX1_numberIs 3 (some .boolean) sp_X1_numberIs) (h_X3_canCover : zMS 3 yX3_canCover cX3_canCover 3 (some .boolean) sp_X3_canCover) (h_X3_cover : zMS 2 yX3_cover cX3_cover 7 (some .int) sp_X3_cover) : zTrue RX1 cX1_writeOnto 5 (some .boolean) (d + 5) (fun kd K => tb_X1_writeOnto kd K) := by
  intro p l e R s m args below meth c D cy A ad bl Qm K C0 hr hlocks hQ
  obtain ⟨hx, hb, hml, hown, hts, hK, hD, hA0, hN, hE, ⟨hR1, hR2⟩, hc1, hc2⟩ := id C0
  unfold tb_X1_writeOnto
  refine List.forall_mem_cons.mpr ⟨ok_aload_n hx hb rfl dd_X1_writeOnto_0, ?_⟩
  refine List.forall_mem_cons.mpr ⟨ok_iconst hx hb dd_X1_writeOnto_1 (by decide), ?_⟩
  refine List.forall_mem_cons.mpr ⟨ok_iconst hx hb dd_X1_writeOnto_2 (by decide), ?_⟩
  refine List.forall_mem_cons.mpr ⟨ok_callS (n := 3) C0 (h_X1_numberIs (d + 4) (by omega)) (by decide) wd_507 wd_505 wd_506 wd_110 ⟨by decide +kernel, by decide +kernel, by decide +kernel⟩ dd_X1_writeOnto_3, ?_⟩
  refine List.forall_mem_cons.mpr ⟨ok_if_eq hx hb dd_X1_writeOnto_6 (by decide), ?_⟩
  refine List.forall_mem_cons.mpr ⟨ok_aload_n hx hb rfl dd_X1_writeOnto_9, ?_⟩
  refine List.forall_mem_cons.mpr ⟨ok_aload_n hx hb rfl dd_X1_writeOnto_10, ?_⟩
  refine List.forall_mem_cons.mpr ⟨ok_getIN (j := 5) hx hb hts zi_X5 hown hK zc_X5 (by decide) rfl (fun t fl h => by cases h; rfl) (va_Nw.use rfl (hN _ nd_256)) dd_X1_writeOnto_11, ?_⟩
  refine List.forall_mem_cons.mpr ⟨ok_callVN (n := 1) zc_X3 rv_X3_canCover C0 (h_X3_canCover (d + 4) (by omega)) (by decide) wd_345 nd_509 wd_344 wd_7 wd_102 ⟨by decide +kernel, by decide +kernel, by decide +kernel⟩ dd_X1_writeOnto_14, ?_⟩
  refine List.forall_mem_cons.mpr ⟨ok_if_ne hx hb dd_X1_writeOnto_17 (by decide), ?_⟩
  refine List.forall_mem_cons.mpr ⟨ok_iconst hx hb dd_X1_writeOnto_20 (by decide), ?_⟩
  refine List.forall_mem_cons.mpr ⟨ok_zret hx hb hr hlocks hQ dd_X1_writeOnto_21, ?_⟩
  refine List.forall_mem_cons.mpr ⟨ok_aload_n hx hb rfl dd_X1_writeOnto_22, ?_⟩
  refine List.forall_mem_cons.mpr ⟨ok_getIN (j := 5) hx hb hts zi_X5 hown hK zc_X5 (by decide) rfl (fun t fl h => by cases h; rfl) (va_Nw.use rfl (hN _ nd_256)) dd_X1_writeOnto_23, ?_⟩
  refine List.forall_mem_cons.mpr ⟨ok_istore_n hx hb rfl dd_X1_writeOnto_26, ?_⟩
  refine List.forall_mem_cons.mpr ⟨ok_aload_n hx hb rfl dd_X1_writeOnto_27, ?_⟩
  refine List.forall_mem_cons.mpr ⟨ok_iconst hx hb dd_X1_writeOnto_28 (by decide), ?_⟩
  refine List.forall_mem_cons.mpr ⟨ok_iconst hx hb dd_X1_writeOnto_29 (by decide), ?_⟩
  refine List.forall_mem_cons.mpr ⟨ok_callS (n := 3) C0 (h_X1_numberIs (d + 4) (by omega)) (by decide) wd_507 wd_505 wd_506 wd_110 ⟨by decide +kernel, by decide +kernel, by decide +kernel⟩ dd_X1_writeOnto_30, ?_⟩
  refine List.forall_mem_cons.mpr ⟨ok_if_ne hx hb dd_X1_writeOnto_33 (by decide), ?_⟩
  refine List.forall_mem_cons.mpr ⟨ok_iconst hx hb dd_X1_writeOnto_36 (by decide), ?_⟩
  refine List.forall_mem_cons.mpr ⟨ok_zret hx hb hr hlocks hQ dd_X1_writeOnto_37, ?_⟩
  refine List.forall_mem_cons.mpr ⟨ok_aload_n hx hb rfl dd_X1_writeOnto_38, ?_⟩
  refine List.forall_mem_cons.mpr ⟨ok_getIN (j := 5) hx hb hts zi_X5 hown hK zc_X5 (by decide) rfl (fun t fl h => by cases h; rfl) (va_Nw.use rfl (hN _ nd_256)) dd_X1_writeOnto_39, ?_⟩
  refine List.forall_mem_cons.mpr ⟨ok_istore_n hx hb rfl dd_X1_writeOnto_42, ?_⟩
  refine List.forall_mem_cons.mpr ⟨ok_aload_n hx hb rfl dd_X1_writeOnto_43, ?_⟩
  refine List.forall_mem_cons.mpr ⟨ok_iconst hx hb dd_X1_writeOnto_44 (by decide), ?_⟩
  refine List.forall_mem_cons.mpr ⟨ok_iconst hx hb dd_X1_writeOnto_45 (by decide), ?_⟩
  refine List.forall_mem_cons.mpr ⟨ok_callS (n := 3) C0 (h_X1_numberIs (d + 4) (by omega)) (by decide) wd_507 wd_505 wd_506 wd_110 ⟨by decide +kernel, by decide +kernel, by decide +kernel⟩ dd_X1_writeOnto_46, ?_⟩
  refine List.forall_mem_cons.mpr ⟨ok_if_ne hx hb dd_X1_writeOnto_49 (by decide), ?_⟩
  refine List.forall_mem_cons.mpr ⟨ok_iconst hx hb dd_X1_writeOnto_52 (by decide), ?_⟩
  refine List.forall_mem_cons.mpr ⟨ok_zret hx hb hr hlocks hQ dd_X1_writeOnto_53, ?_⟩
  refine List.forall_mem_cons.mpr ⟨ok_aload_n hx hb rfl dd_X1_writeOnto_54, ?_⟩
  refine List.forall_mem_cons.mpr ⟨ok_getIN (j := 5) hx hb hts zi_X5 hown hK zc_X5 (by decide) rfl (fun t fl h => by cases h; rfl) (va_Nw.use rfl (hN _ nd_256)) dd_X1_writeOnto_55, ?_⟩
  refine List.forall_mem_cons.mpr ⟨ok_istore hx hb dd_X1_writeOnto_58, ?_⟩
  refine List.forall_mem_cons.mpr ⟨ok_aload_n hx hb rfl dd_X1_writeOnto_60, ?_⟩
  refine List.forall_mem_cons.mpr ⟨ok_iconst hx hb dd_X1_writeOnto_61 (by decide), ?_⟩
  refine List.forall_mem_cons.mpr ⟨ok_iconst hx hb dd_X1_writeOnto_62 (by decide), ?_⟩
  refine List.forall_mem_cons.mpr ⟨ok_callS (n := 3) C0 (h_X1_numberIs (d + 4) (by omega)) (by decide) wd_507 wd_505 wd_506 wd_110 ⟨by decide +kernel, by decide +kernel, by decide +kernel⟩ dd_X1_writeOnto_63, ?_⟩
  refine List.forall_mem_cons.mpr ⟨ok_if_ne hx hb dd_X1_writeOnto_66 (by decide), ?_⟩
  refine List.forall_mem_cons.mpr ⟨ok_iconst hx hb dd_X1_writeOnto_69 (by decide), ?_⟩
  refine List.forall_mem_cons.mpr ⟨ok_zret hx hb hr hlocks hQ dd_X1_writeOnto_70, ?_⟩
  refine List.forall_mem_cons.mpr ⟨ok_aload_n hx hb rfl dd_X1_writeOnto_71, ?_⟩
  refine List.forall_mem_cons.mpr ⟨ok_iload_n hx hb rfl dd_X1_writeOnto_72, ?_⟩
  refine List.forall_mem_cons.mpr ⟨ok_iload_n hx hb rfl dd_X1_writeOnto_73, ?_⟩
  refine List.forall_mem_cons.mpr ⟨ok_iload hx hb dd_X1_writeOnto_74, ?_⟩
  refine List.forall_mem_cons.mpr ⟨ok_aload_n hx hb rfl dd_X1_writeOnto_76, ?_⟩
  refine List.forall_mem_cons.mpr ⟨ok_getIN (j := 5) hx hb hts zi_X5 hown hK zc_X5 (by decide) rfl (fun t fl h => by cases h; rfl) (va_Nw.use rfl (hN _ nd_256)) dd_X1_writeOnto_77, ?_⟩
  refine List.forall_mem_cons.mpr ⟨ok_callVN (n := 4) zc_X3 rv_X3_cover C0 (h_X3_cover (d + 4) (by omega)) (by decide) wd_356 nd_510 wd_355 wd_9 wd_102 ⟨by decide +kernel, by decide +kernel, by decide +kernel⟩ dd_X1_writeOnto_80, ?_⟩
  refine List.forall_mem_cons.mpr ⟨ok_pop hx hb dd_X1_writeOnto_83, ?_⟩
  refine List.forall_mem_cons.mpr ⟨ok_iconst hx hb dd_X1_writeOnto_84 (by decide), ?_⟩
  refine List.forall_mem_cons.mpr ⟨ok_zret hx hb hr hlocks hQ dd_X1_writeOnto_85, ?_⟩
  exact fun _ h => absurd h List.not_mem_nil
set_option maxRecDepth 100000 in
theorem vc_X1_writeOnto_0 {kd : Nat → Nat} {K : zK} {X : zX} (hX : ∀ (n pc : Nat) (ls : zLS) (st : List zV) (M : zM), zrun (tb_X1_writeOnto kd K) [] n X pc ls st M → X pc ls st M) {t : Nat} {u : Nat} {M : zM} (hk0 : kd u = 3) (hk1 : kd t = 7) (h : ∃ b1 : List Int, ∃ T1 : Tk, (RpK (M.1 t) b1 T1) ∧ ∀ v1 : Int32, (v1 = zp (numIs (tok b1 T1.2.2.2) (0 : Int32).toInt (5 : Int32).toInt = true)) → ∀ S1 : zB, (RpK S1 b1 (tok b1 T1.2.2.2)) → ∀ M1 : zM, (M1 = zbs M t S1) → ((v1 = 0) → K (some (zI ((0 : Int32)))) M1) ∧ ((¬ v1 = 0) → ∃ a2 : Sk, (RpS (M1.1 u) a2) ∧ ∀ v2 : Int32, (v2 = zp (sk_canW a2 (M1.1 t 0 5).toInt = true)) → ((¬ v2 = 0) → ∃ b3 : List Int, ∃ T3 : Tk, (RpK (M1.1 t) b3 T3) ∧ ∀ v3 : Int32, (v3 = zp (numIs (tok b3 T3.2.2.2) (0 : Int32).toInt (5 : Int32).toInt = true)) → ∀ S3 : zB, (RpK S3 b3 (tok b3 T3.2.2.2)) → ∀ M3 : zM, (M3 = zbs M1 t S3) → ((¬ v3 = 0) → ∃ b4 : List Int, ∃ T4 : Tk, (RpK (M3.1 t) b4 T4) ∧ ∀ v4 : Int32, (v4 = zp (numIs (tok b4 T4.2.2.2) (0 : Int32).toInt (4 : Int32).toInt = true)) → ∀ S4 : zB, (RpK S4 b4 (tok b4 T4.2.2.2)) → ∀ M4 : zM, (M4 = zbs M3 t S4) → ((¬ v4 = 0) → ∃ b5 : List Int, ∃ T5 : Tk, (RpK (M4.1 t) b5 T5) ∧ ∀ v5 : Int32, (v5 = zp (numIs (tok b5 T5.2.2.2) (0 : Int32).toInt (1 : Int32).toInt = true)) → ∀ S5 : zB, (RpK S5 b5 (tok b5 T5.2.2.2)) → ∀ M5 : zM, (M5 = zbs M4 t S5) → ((¬ v5 = 0) → ∃ a6 : Sk, (RpS (M5.1 u) a6) ∧ (0 ≤ (M1.1 t 0 5).toInt ∧ (M1.1 t 0 5).toInt < 6) ∧ (sk_canR a6 (M1.1 t 0 5).toInt = false) ∧ (0 ≤ (M3.1 t 0 5).toInt ∧ (M3.1 t 0 5).toInt ≤ 5) ∧ (0 ≤ (M4.1 t 0 5).toInt ∧ (M4.1 t 0 5).toInt ≤ 4) ∧ ((M5.1 t 0 5).toInt = 0 ∨ (M5.1 t 0 5).toInt = 1) ∧ ∀ v6 : Int32, (v6.toInt = if sk_len a6 (M1.1 t 0 5).toInt < 4 then sk_len a6 (M1.1 t 0 5).toInt else -1) → ∀ S6 : zB, (RpS S6 (sk_wr a6 (M1.1 t 0 5).toInt (M3.1 t 0 5).toInt (M4.1 t 0 5).toInt (M5.1 t 0 5).toInt)) → ∀ M6 : zM, (M6 = zbs M5 u S6) → K (some (zI ((1 : Int32)))) M6) ∧ ((v5 = 0) → K (some (zI ((0 : Int32)))) M5)) ∧ ((v4 = 0) → K (some (zI ((0 : Int32)))) M4)) ∧ ((v3 = 0) → K (some (zI ((0 : Int32)))) M3)) ∧ ((v2 = 0) → K (some (zI ((0 : Int32)))) M1))) : X 0 [some (zR t 0), some (zR u 0), none, none, none] [] M := hX 45 0 _ [] M (show (kd t = 7) ∧ ∃ b1 : List Int, ∃ T1 : Tk, (RpK (M.1 t) b1 T1) ∧ ∀ v1 : Int32, (v1 = zp (numIs (tok b1 T1.2.2.2) (0 : Int32).toInt (5 : Int32).toInt = true)) → ∀ S1 : zB, (RpK S1 b1 (tok b1 T1.2.2.2)) → ∀ M1 : zM, (M1 = zbs M t S1) → ((v1 = 0) → ((0 : Int32) = 0 ∨ (0 : Int32) = 1) ∧ K (some (zI ((0 : Int32)))) M1) ∧ ((¬ v1 = 0) → (kd t = 7) ∧ (kd u = 3) ∧ ∃ a2 : Sk, (RpS (M1.1 u) a2) ∧ ∀ v2 : Int32, (v2 = zp (sk_canW a2 (M1.1 t 0 5).toInt = true)) → ((¬ v2 = 0) → (kd t = 7) ∧ (kd t = 7) ∧ ∃ b3 : List Int, ∃ T3 : Tk, (RpK (M1.1 t) b3 T3) ∧ ∀ v3 : Int32, (v3 = zp (numIs (tok b3 T3.2.2.2) (0 : Int32).toInt (5 : Int32).toInt = true)) → ∀ S3 : zB, (RpK S3 b3 (tok b3 T3.2.2.2)) → ∀ M3 : zM, (M3 = zbs M1 t S3) → ((¬ v3 = 0) → (kd t = 7) ∧ (kd t = 7) ∧ ∃ b4 : List Int, ∃ T4 : Tk, (RpK (M3.1 t) b4 T4) ∧ ∀ v4 : Int32, (v4 = zp (numIs (tok b4 T4.2.2.2) (0 : Int32).toInt (4 : Int32).toInt = true)) → ∀ S4 : zB, (RpK S4 b4 (tok b4 T4.2.2.2)) → ∀ M4 : zM, (M4 = zbs M3 t S4) → ((¬ v4 = 0) → (kd t = 7) ∧ (kd t = 7) ∧ ∃ b5 : List Int, ∃ T5 : Tk, (RpK (M4.1 t) b5 T5) ∧ ∀ v5 : Int32, (v5 = zp (numIs (tok b5 T5.2.2.2) (0 : Int32).toInt (1 : Int32).toInt = true)) → ∀ S5 : zB, (RpK S5 b5 (tok b5 T5.2.2.2)) → ∀ M5 : zM, (M5 = zbs M4 t S5) → ((¬ v5 = 0) → (kd t = 7) ∧ (kd u = 3) ∧ ∃ a6 : Sk, (RpS (M5.1 u) a6) ∧ (0 ≤ (M1.1 t 0 5).toInt ∧ (M1.1 t 0 5).toInt < 6) ∧ (sk_canR a6 (M1.1 t 0 5).toInt = false) ∧ (0 ≤ (M3.1 t 0 5).toInt ∧ (M3.1 t 0 5).toInt ≤ 5) ∧ (0 ≤ (M4.1 t 0 5).toInt ∧ (M4.1 t 0 5).toInt ≤ 4) ∧ ((M5.1 t 0 5).toInt = 0 ∨ (M5.1 t 0 5).toInt = 1) ∧ ∀ v6 : Int32, (v6.toInt = if sk_len a6 (M1.1 t 0 5).toInt < 4 then sk_len a6 (M1.1 t 0 5).toInt else -1) → ∀ S6 : zB, (RpS S6 (sk_wr a6 (M1.1 t 0 5).toInt (M3.1 t 0 5).toInt (M4.1 t 0 5).toInt (M5.1 t 0 5).toInt)) → ∀ M6 : zM, (M6 = zbs M5 u S6) → ((1 : Int32) = 0 ∨ (1 : Int32) = 1) ∧ K (some (zI ((1 : Int32)))) M6) ∧ ((v5 = 0) → ((0 : Int32) = 0 ∨ (0 : Int32) = 1) ∧ K (some (zI ((0 : Int32)))) M5)) ∧ ((v4 = 0) → ((0 : Int32) = 0 ∨ (0 : Int32) = 1) ∧ K (some (zI ((0 : Int32)))) M4)) ∧ ((v3 = 0) → ((0 : Int32) = 0 ∨ (0 : Int32) = 1) ∧ K (some (zI ((0 : Int32)))) M3)) ∧ ((v2 = 0) → ((0 : Int32) = 0 ∨ (0 : Int32) = 1) ∧ K (some (zI ((0 : Int32)))) M1)) from ⟨hk1, h.elim (fun b1 h => ⟨b1, h.elim (fun T1 h => ⟨T1, ⟨h.1, have h := h.2; fun v1 => have h := h v1; fun q => have h := h q; fun S1 => have h := h S1; fun q => have h := h q; fun M1 => have h := h M1; fun q => have h := h q; ⟨fun q => have h := h.1 q; ⟨(Or.inl rfl), h⟩, fun q => have h := h.2 q; ⟨hk1, ⟨hk0, h.elim (fun a2 h => ⟨a2, ⟨h.1, have h := h.2; fun v2 => have h := h v2; fun q => have h := h q; ⟨fun q => have h := h.1 q; ⟨hk1, ⟨hk1, h.elim (fun b3 h => ⟨b3, h.elim (fun T3 h => ⟨T3, ⟨h.1, have h := h.2; fun v3 => have h := h v3; fun q => have h := h q; fun S3 => have h := h S3; fun q => have h := h q; fun M3 => have h := h M3; fun q => have h := h q; ⟨fun q => have h := h.1 q; ⟨hk1, ⟨hk1, h.elim (fun b4 h => ⟨b4, h.elim (fun T4 h => ⟨T4, ⟨h.1, have h := h.2; fun v4 => have h := h v4; fun q => have h := h q; fun S4 => have h := h S4; fun q => have h := h q; fun M4 => have h := h M4; fun q => have h := h q; ⟨fun q => have h := h.1 q; ⟨hk1, ⟨hk1, h.elim (fun b5 h => ⟨b5, h.elim (fun T5 h => ⟨T5, ⟨h.1, have h := h.2; fun v5 => have h := h v5; fun q => have h := h q; fun S5 => have h := h S5; fun q => have h := h q; fun M5 => have h := h M5; fun q => have h := h q; ⟨fun q => have h := h.1 q; ⟨hk1, ⟨hk0, h.elim (fun a6 h => ⟨a6, ⟨h.1, have h := h.2; ⟨h.1, have h := h.2; ⟨h.1, have h := h.2; ⟨h.1, have h := h.2; ⟨h.1, have h := h.2; ⟨h.1, have h := h.2; fun v6 => have h := h v6; fun q => have h := h q; fun S6 => have h := h S6; fun q => have h := h q; fun M6 => have h := h M6; fun q => have h := h q; ⟨(Or.inr rfl), h⟩⟩⟩⟩⟩⟩⟩⟩)⟩⟩, fun q => have h := h.2 q; ⟨(Or.inl rfl), h⟩⟩⟩⟩)⟩)⟩⟩, fun q => have h := h.2 q; ⟨(Or.inl rfl), h⟩⟩⟩⟩)⟩)⟩⟩, fun q => have h := h.2 q; ⟨(Or.inl rfl), h⟩⟩⟩⟩)⟩)⟩⟩, fun q => have h := h.2 q; ⟨(Or.inl rfl), h⟩⟩⟩⟩)⟩⟩⟩⟩⟩)⟩)⟩)
def sp_X1_itemOnto : zSpec := fun kd as M K => match as with
  | [.inr (.inr (.inl (t, 0))), .inr (.inr (.inl (u, 0)))] => (kd t = 7) ∧ (kd u = 3) ∧ ∃ b : List Int, ∃ T : Tk, (RpK (M.1 t) b T) ∧ ∃ a : Sk, (RpS (M.1 u) a) ∧ ∀ v : Int32, (v = zp ((rdIt b T a).1 = true)) → ∀ S1 : zB, (RpK S1 b (rdIt b T a).2.1) → ∀ S2 : zB, (RpS S2 (rdIt b T a).2.2) → ∀ M' : zM, (M' = zbs (zbs M t S1) u S2) → K (some (.inl v)) M'
  | _ => False
theorem dd_X1_itemOnto_0 : decode cX1_itemOnto 0 = .ok (.aload_n 0, 1) := by decide +kernel
theorem dd_X1_itemOnto_1 : decode cX1_itemOnto 1 = .ok (.ldc 42, 2) := by decide +kernel
theorem dd_X1_itemOnto_3 : decode cX1_itemOnto 3 = .ok (.invokevirtual 21, 3) := by decide +kernel
theorem dd_X1_itemOnto_6 : decode cX1_itemOnto 6 = .ok (.ifCond .eq 9, 3) := by decide +kernel
theorem dd_X1_itemOnto_9 : decode cX1_itemOnto 9 = .ok (.aload_n 0, 1) := by decide +kernel
theorem dd_X1_itemOnto_10 : decode cX1_itemOnto 10 = .ok (.aload_n 1, 1) := by decide +kernel
theorem dd_X1_itemOnto_11 : decode cX1_itemOnto 11 = .ok (.invokestatic 44, 3) := by decide +kernel
theorem dd_X1_itemOnto_14 : decode cX1_itemOnto 14 = .ok (.ireturn, 1) := by decide +kernel
theorem dd_X1_itemOnto_15 : decode cX1_itemOnto 15 = .ok (.aload_n 0, 1) := by decide +kernel
theorem dd_X1_itemOnto_16 : decode cX1_itemOnto 16 = .ok (.ldc 47, 2) := by decide +kernel
theorem dd_X1_itemOnto_18 : decode cX1_itemOnto 18 = .ok (.invokevirtual 21, 3) := by decide +kernel
theorem dd_X1_itemOnto_21 : decode cX1_itemOnto 21 = .ok (.ifCond .eq 9, 3) := by decide +kernel
theorem dd_X1_itemOnto_24 : decode cX1_itemOnto 24 = .ok (.aload_n 0, 1) := by decide +kernel
theorem dd_X1_itemOnto_25 : decode cX1_itemOnto 25 = .ok (.aload_n 1, 1) := by decide +kernel
theorem dd_X1_itemOnto_26 : decode cX1_itemOnto 26 = .ok (.invokestatic 49, 3) := by decide +kernel
theorem dd_X1_itemOnto_29 : decode cX1_itemOnto 29 = .ok (.ireturn, 1) := by decide +kernel
theorem dd_X1_itemOnto_30 : decode cX1_itemOnto 30 = .ok (.aload_n 0, 1) := by decide +kernel
theorem dd_X1_itemOnto_31 : decode cX1_itemOnto 31 = .ok (.ldc 52, 2) := by decide +kernel
theorem dd_X1_itemOnto_33 : decode cX1_itemOnto 33 = .ok (.invokevirtual 21, 3) := by decide +kernel
theorem dd_X1_itemOnto_36 : decode cX1_itemOnto 36 = .ok (.ifCond .eq 15, 3) := by decide +kernel
theorem dd_X1_itemOnto_39 : decode cX1_itemOnto 39 = .ok (.aload_n 0, 1) := by decide +kernel
theorem dd_X1_itemOnto_40 : decode cX1_itemOnto 40 = .ok (.aload_n 1, 1) := by decide +kernel
theorem dd_X1_itemOnto_41 : decode cX1_itemOnto 41 = .ok (.invokestatic 54, 3) := by decide +kernel
theorem dd_X1_itemOnto_44 : decode cX1_itemOnto 44 = .ok (.ifCond .eq 7, 3) := by decide +kernel
theorem dd_X1_itemOnto_47 : decode cX1_itemOnto 47 = .ok (.iconst 1, 1) := by decide +kernel
theorem dd_X1_itemOnto_48 : decode cX1_itemOnto 48 = .ok (.goto 4, 3) := by decide +kernel
theorem dd_X1_itemOnto_51 : decode cX1_itemOnto 51 = .ok (.iconst 0, 1) := by decide +kernel
theorem dd_X1_itemOnto_52 : decode cX1_itemOnto 52 = .ok (.ireturn, 1) := by decide +kernel
def tb_X1_itemOnto (kd : Nat → Nat) (K : zK) : zTab := [(0, zt_aload 0 1), (1, zt_const (zR (20 + 1) 0) 3), (3, zt_call kd sp_X5_spells 2 6), (6, zt_if (fun x => x = 0) (fun x => ¬ x = 0) 15 9), (9, zt_aload 0 10), (10, zt_aload 1 11), (11, zt_call kd sp_X1_writeOnto 2 14), (14, zt_zret K), (15, zt_aload 0 16), (16, zt_const (zR (20 + 2) 0) 18), (18, zt_call kd sp_X5_spells 2 21), (21, zt_if (fun x => x = 0) (fun x => ¬ x = 0) 30 24), (24, zt_aload 0 25), (25, zt_aload 1 26), (26, zt_call kd sp_X1_rubOnto 2 29), (29, zt_zret K), (30, zt_aload 0 31), (31, zt_const (zR (20 + 3) 0) 33), (33, zt_call kd sp_X5_spells 2 36), (36, zt_if (fun x => x = 0) (fun x => ¬ x = 0) 51 39), (39, zt_aload 0 40), (40, zt_aload 1 41), (41, zt_call kd sp_X1_yearsOnto 2 44), (44, zt_if (fun x => x = 0) (fun x => ¬ x = 0) 51 47), (47, zt_const (zI 1) 48), (48, zt_goto 52), (51, zt_const (zI 0) 52), (52, zt_zret K)]
set_option maxRecDepth 20000 in
theorem tk_X1_itemOnto (d : Nat) (h_X5_spells : zMS 5 yX5_spells cX5_spells 3 (some .boolean) sp_X5_spells) (h_X1_writeOnto : zMS 5 yX1_writeOnto cX1_writeOnto 5 (some .boolean) sp_X1_writeOnto) (h_X1_rubOnto : zMS 5 yX1_rubOnto cX1_rubOnto 2 (some .boolean) sp_X1_rubOnto) (h_X1_yearsOnto : zMS 5 yX1_yearsOnto cX1_yearsOnto 2 (some .boolean) sp_X1_yearsOnto) : zTrue RX1 cX1_itemOnto 2 (some .boolean) (d + 6) (fun kd K => tb_X1_itemOnto kd K) := by
  intro p l e R s m args below meth c D cy A ad bl Qm K C0 hr hlocks hQ
  obtain ⟨hx, hb, hml, hown, hts, hK, hD, hA0, hN, hE, ⟨hR1, hR2⟩, hc1, hc2⟩ := id C0
  unfold tb_X1_itemOnto
  refine List.forall_mem_cons.mpr ⟨ok_aload_n hx hb rfl dd_X1_itemOnto_0, ?_⟩
  refine List.forall_mem_cons.mpr ⟨ok_str hx hb hown hE (i := 1) (by decide) rfl dd_X1_itemOnto_1, ?_⟩
  refine List.forall_mem_cons.mpr ⟨ok_callVN (n := 1) zc_X5 rv_X5_spells C0 (h_X5_spells (d + 5) (by omega)) (by decide) wd_445 nd_442 wd_444 wd_21 wd_106 ⟨by decide +kernel, by decide +kernel, by decide +kernel⟩ dd_X1_itemOnto_3, ?_⟩
  refine List.forall_mem_cons.mpr ⟨ok_if_eq hx hb dd_X1_itemOnto_6 (by decide), ?_⟩
  refine List.forall_mem_cons.mpr ⟨ok_aload_n hx hb rfl dd_X1_itemOnto_9, ?_⟩
  refine List.forall_mem_cons.mpr ⟨ok_aload_n hx hb rfl dd_X1_itemOnto_10, ?_⟩
  refine List.forall_mem_cons.mpr ⟨ok_callS (n := 2) C0 (h_X1_writeOnto (d + 5) (by omega)) (by decide) wd_504 wd_502 wd_503 wd_110 ⟨by decide +kernel, by decide +kernel, by decide +kernel⟩ dd_X1_itemOnto_11, ?_⟩
  refine List.forall_mem_cons.mpr ⟨ok_zret hx hb hr hlocks hQ dd_X1_itemOnto_14, ?_⟩
  refine List.forall_mem_cons.mpr ⟨ok_aload_n hx hb rfl dd_X1_itemOnto_15, ?_⟩
  refine List.forall_mem_cons.mpr ⟨ok_str hx hb hown hE (i := 2) (by decide) rfl dd_X1_itemOnto_16, ?_⟩
  refine List.forall_mem_cons.mpr ⟨ok_callVN (n := 1) zc_X5 rv_X5_spells C0 (h_X5_spells (d + 5) (by omega)) (by decide) wd_445 nd_442 wd_444 wd_21 wd_106 ⟨by decide +kernel, by decide +kernel, by decide +kernel⟩ dd_X1_itemOnto_18, ?_⟩
  refine List.forall_mem_cons.mpr ⟨ok_if_eq hx hb dd_X1_itemOnto_21 (by decide), ?_⟩
  refine List.forall_mem_cons.mpr ⟨ok_aload_n hx hb rfl dd_X1_itemOnto_24, ?_⟩
  refine List.forall_mem_cons.mpr ⟨ok_aload_n hx hb rfl dd_X1_itemOnto_25, ?_⟩
  refine List.forall_mem_cons.mpr ⟨ok_callS (n := 2) C0 (h_X1_rubOnto (d + 5) (by omega)) (by decide) wd_514 wd_512 wd_513 wd_110 ⟨by decide +kernel, by decide +kernel, by decide +kernel⟩ dd_X1_itemOnto_26, ?_⟩
  refine List.forall_mem_cons.mpr ⟨ok_zret hx hb hr hlocks hQ dd_X1_itemOnto_29, ?_⟩
  refine List.forall_mem_cons.mpr ⟨ok_aload_n hx hb rfl dd_X1_itemOnto_30, ?_⟩
  refine List.forall_mem_cons.mpr ⟨ok_str hx hb hown hE (i := 3) (by decide) rfl dd_X1_itemOnto_31, ?_⟩
  refine List.forall_mem_cons.mpr ⟨ok_callVN (n := 1) zc_X5 rv_X5_spells C0 (h_X5_spells (d + 5) (by omega)) (by decide) wd_445 nd_442 wd_444 wd_21 wd_106 ⟨by decide +kernel, by decide +kernel, by decide +kernel⟩ dd_X1_itemOnto_33, ?_⟩
  refine List.forall_mem_cons.mpr ⟨ok_if_eq hx hb dd_X1_itemOnto_36 (by decide), ?_⟩
  refine List.forall_mem_cons.mpr ⟨ok_aload_n hx hb rfl dd_X1_itemOnto_39, ?_⟩
  refine List.forall_mem_cons.mpr ⟨ok_aload_n hx hb rfl dd_X1_itemOnto_40, ?_⟩
  refine List.forall_mem_cons.mpr ⟨ok_callS (n := 2) C0 (h_X1_yearsOnto (d + 5) (by omega)) (by decide) wd_520 wd_518 wd_519 wd_110 ⟨by decide +kernel, by decide +kernel, by decide +kernel⟩ dd_X1_itemOnto_41, ?_⟩
  refine List.forall_mem_cons.mpr ⟨ok_if_eq hx hb dd_X1_itemOnto_44 (by decide), ?_⟩
  refine List.forall_mem_cons.mpr ⟨ok_iconst hx hb dd_X1_itemOnto_47 (by decide), ?_⟩
  refine List.forall_mem_cons.mpr ⟨ok_goto hx hb dd_X1_itemOnto_48 (by decide), ?_⟩
  refine List.forall_mem_cons.mpr ⟨ok_iconst hx hb dd_X1_itemOnto_51 (by decide), ?_⟩
  refine List.forall_mem_cons.mpr ⟨ok_zret hx hb hr hlocks hQ dd_X1_itemOnto_52, ?_⟩
  exact fun _ h => absurd h List.not_mem_nil
set_option maxRecDepth 100000 in
theorem vc_X1_itemOnto_0 {kd : Nat → Nat} {K : zK} {X : zX} (hX : ∀ (n pc : Nat) (ls : zLS) (st : List zV) (M : zM), zrun (tb_X1_itemOnto kd K) [] n X pc ls st M → X pc ls st M) {t : Nat} {u : Nat} {M : zM} (hk0 : kd u = 3) (hk1 : kd t = 7) (h : ∃ b1 : List Int, ∃ T1 : Tk, (RpK (M.1 t) b1 T1) ∧ (20 ≤ 21 ∧ 21 < 24) ∧ ∀ v1 : Int32, (v1 = zp (isWd b1 T1 21 = true)) → ((v1 = 0) → ∃ b2 : List Int, ∃ T2 : Tk, (RpK (M.1 t) b2 T2) ∧ (20 ≤ 22 ∧ 22 < 24) ∧ ∀ v2 : Int32, (v2 = zp (isWd b2 T2 22 = true)) → ((v2 = 0) → ∃ b3 : List Int, ∃ T3 : Tk, (RpK (M.1 t) b3 T3) ∧ (20 ≤ 23 ∧ 23 < 24) ∧ ∀ v3 : Int32, (v3 = zp (isWd b3 T3 23 = true)) → ((v3 = 0) → K (some (zI ((0 : Int32)))) M) ∧ ((¬ v3 = 0) → ∃ b4 : List Int, ∃ T4 : Tk, (RpK (M.1 t) b4 T4) ∧ ∃ a4 : Sk, (RpS (M.1 u) a4) ∧ ∀ v4 : Int32, (v4 = zp ((rdYr b4 T4 a4).1 = true)) → ∀ S14 : zB, (RpK S14 b4 (rdYr b4 T4 a4).2.1) → ∀ S24 : zB, (RpS S24 (rdYr b4 T4 a4).2.2) → ∀ M4 : zM, (M4 = zbs (zbs M t S14) u S24) → ((v4 = 0) → K (some (zI ((0 : Int32)))) M4) ∧ ((¬ v4 = 0) → K (some (zI ((1 : Int32)))) M4))) ∧ ((¬ v2 = 0) → ∃ b5 : List Int, ∃ T5 : Tk, (RpK (M.1 t) b5 T5) ∧ ∃ a5 : Sk, (RpS (M.1 u) a5) ∧ ∀ v5 : Int32, (v5 = zp ((rdRb b5 T5 a5).1 = true)) → ∀ S15 : zB, (RpK S15 b5 (rdRb b5 T5 a5).2.1) → ∀ S25 : zB, (RpS S25 (rdRb b5 T5 a5).2.2) → ∀ M5 : zM, (M5 = zbs (zbs M t S15) u S25) → (v5 = 0 ∨ v5 = 1) ∧ K (some (zI (v5))) M5)) ∧ ((¬ v1 = 0) → ∃ b6 : List Int, ∃ T6 : Tk, (RpK (M.1 t) b6 T6) ∧ ∃ a6 : Sk, (RpS (M.1 u) a6) ∧ ∀ v6 : Int32, (v6 = zp ((rdWr b6 T6 a6).1 = true)) → ∀ S16 : zB, (RpK S16 b6 (rdWr b6 T6 a6).2.1) → ∀ S26 : zB, (RpS S26 (rdWr b6 T6 a6).2.2) → ∀ M6 : zM, (M6 = zbs (zbs M t S16) u S26) → (v6 = 0 ∨ v6 = 1) ∧ K (some (zI (v6))) M6)) : X 0 [some (zR t 0), some (zR u 0)] [] M := hX 20 0 _ [] M (show (kd t = 7) ∧ ∃ b1 : List Int, ∃ T1 : Tk, (RpK (M.1 t) b1 T1) ∧ (20 ≤ 21 ∧ 21 < 24) ∧ ∀ v1 : Int32, (v1 = zp (isWd b1 T1 21 = true)) → ((v1 = 0) → (kd t = 7) ∧ ∃ b2 : List Int, ∃ T2 : Tk, (RpK (M.1 t) b2 T2) ∧ (20 ≤ 22 ∧ 22 < 24) ∧ ∀ v2 : Int32, (v2 = zp (isWd b2 T2 22 = true)) → ((v2 = 0) → (kd t = 7) ∧ ∃ b3 : List Int, ∃ T3 : Tk, (RpK (M.1 t) b3 T3) ∧ (20 ≤ 23 ∧ 23 < 24) ∧ ∀ v3 : Int32, (v3 = zp (isWd b3 T3 23 = true)) → ((v3 = 0) → ((0 : Int32) = 0 ∨ (0 : Int32) = 1) ∧ K (some (zI ((0 : Int32)))) M) ∧ ((¬ v3 = 0) → (kd t = 7) ∧ (kd u = 3) ∧ ∃ b4 : List Int, ∃ T4 : Tk, (RpK (M.1 t) b4 T4) ∧ ∃ a4 : Sk, (RpS (M.1 u) a4) ∧ ∀ v4 : Int32, (v4 = zp ((rdYr b4 T4 a4).1 = true)) → ∀ S14 : zB, (RpK S14 b4 (rdYr b4 T4 a4).2.1) → ∀ S24 : zB, (RpS S24 (rdYr b4 T4 a4).2.2) → ∀ M4 : zM, (M4 = zbs (zbs M t S14) u S24) → ((v4 = 0) → ((0 : Int32) = 0 ∨ (0 : Int32) = 1) ∧ K (some (zI ((0 : Int32)))) M4) ∧ ((¬ v4 = 0) → ((1 : Int32) = 0 ∨ (1 : Int32) = 1) ∧ K (some (zI ((1 : Int32)))) M4))) ∧ ((¬ v2 = 0) → (kd t = 7) ∧ (kd u = 3) ∧ ∃ b5 : List Int, ∃ T5 : Tk, (RpK (M.1 t) b5 T5) ∧ ∃ a5 : Sk, (RpS (M.1 u) a5) ∧ ∀ v5 : Int32, (v5 = zp ((rdRb b5 T5 a5).1 = true)) → ∀ S15 : zB, (RpK S15 b5 (rdRb b5 T5 a5).2.1) → ∀ S25 : zB, (RpS S25 (rdRb b5 T5 a5).2.2) → ∀ M5 : zM, (M5 = zbs (zbs M t S15) u S25) → (v5 = 0 ∨ v5 = 1) ∧ K (some (zI (v5))) M5)) ∧ ((¬ v1 = 0) → (kd t = 7) ∧ (kd u = 3) ∧ ∃ b6 : List Int, ∃ T6 : Tk, (RpK (M.1 t) b6 T6) ∧ ∃ a6 : Sk, (RpS (M.1 u) a6) ∧ ∀ v6 : Int32, (v6 = zp ((rdWr b6 T6 a6).1 = true)) → ∀ S16 : zB, (RpK S16 b6 (rdWr b6 T6 a6).2.1) → ∀ S26 : zB, (RpS S26 (rdWr b6 T6 a6).2.2) → ∀ M6 : zM, (M6 = zbs (zbs M t S16) u S26) → (v6 = 0 ∨ v6 = 1) ∧ K (some (zI (v6))) M6) from ⟨hk1, h.elim (fun b1 h => ⟨b1, h.elim (fun T1 h => ⟨T1, ⟨h.1, have h := h.2; ⟨h.1, have h := h.2; fun v1 => have h := h v1; fun q => have h := h q; ⟨fun q => have h := h.1 q; ⟨hk1, h.elim (fun b2 h => ⟨b2, h.elim (fun T2 h => ⟨T2, ⟨h.1, have h := h.2; ⟨h.1, have h := h.2; fun v2 => have h := h v2; fun q => have h := h q; ⟨fun q => have h := h.1 q; ⟨hk1, h.elim (fun b3 h => ⟨b3, h.elim (fun T3 h => ⟨T3, ⟨h.1, have h := h.2; ⟨h.1, have h := h.2; fun v3 => have h := h v3; fun q => have h := h q; ⟨fun q => have h := h.1 q; ⟨(Or.inl rfl), h⟩, fun q => have h := h.2 q; ⟨hk1, ⟨hk0, h.elim (fun b4 h => ⟨b4, h.elim (fun T4 h => ⟨T4, ⟨h.1, have h := h.2; h.elim (fun a4 h => ⟨a4, ⟨h.1, have h := h.2; fun v4 => have h := h v4; fun q => have h := h q; fun S14 => have h := h S14; fun q => have h := h q; fun S24 => have h := h S24; fun q => have h := h q; fun M4 => have h := h M4; fun q => have h := h q; ⟨fun q => have h := h.1 q; ⟨(Or.inl rfl), h⟩, fun q => have h := h.2 q; ⟨(Or.inr rfl), h⟩⟩⟩⟩)⟩⟩)⟩)⟩⟩⟩⟩⟩⟩)⟩)⟩, fun q => have h := h.2 q; ⟨hk1, ⟨hk0, h.elim (fun b5 h => ⟨b5, h.elim (fun T5 h => ⟨T5, ⟨h.1, have h := h.2; h.elim (fun a5 h => ⟨a5, ⟨h.1, have h := h.2; fun v5 => have h := h v5; fun q => have h := h q; fun S15 => have h := h S15; fun q => have h := h q; fun S25 => have h := h S25; fun q => have h := h q; fun M5 => have h := h M5; fun q => have h := h q; ⟨h.1, have h := h.2; h⟩⟩⟩)⟩⟩)⟩)⟩⟩⟩⟩⟩⟩)⟩)⟩, fun q => have h := h.2 q; ⟨hk1, ⟨hk0, h.elim (fun b6 h => ⟨b6, h.elim (fun T6 h => ⟨T6, ⟨h.1, have h := h.2; h.elim (fun a6 h => ⟨a6, ⟨h.1, have h := h.2; fun v6 => have h := h v6; fun q => have h := h q; fun S16 => have h := h S16; fun q => have h := h q; fun S26 => have h := h S26; fun q => have h := h q; fun M6 => have h := h M6; fun q => have h := h q; ⟨h.1, have h := h.2; h⟩⟩⟩)⟩⟩)⟩)⟩⟩⟩⟩⟩⟩)⟩)⟩)
def sp_X1_rollInto : zSpec := fun kd as M K => match as with
  | [.inr (.inr (.inl (t, 0))), .inr (.inr (.inl (u, 0)))] => (kd t = 7) ∧ (kd u = 3) ∧ ∃ b : List Int, (RpB (M.1 t) b) ∧ ∀ v : Int32, (v.toInt = (rdAll b).1) → ∀ S1 : zB, (RpK S1 b (rdAll b).2.1) → ∀ S2 : zB, (RpS S2 (rdAll b).2.2) → ∀ M' : zM, (M' = zbs (zbs M t S1) u S2) → K (some (.inl v)) M'
  | _ => False
theorem dd_X1_rollInto_0 : decode cX1_rollInto 0 = .ok (.aload_n 1, 1) := by decide +kernel
theorem dd_X1_rollInto_1 : decode cX1_rollInto 1 = .ok (.invokevirtual 9, 3) := by decide +kernel
theorem dd_X1_rollInto_4 : decode cX1_rollInto 4 = .ok (.aload_n 0, 1) := by decide +kernel
theorem dd_X1_rollInto_5 : decode cX1_rollInto 5 = .ok (.invokevirtual 14, 3) := by decide +kernel
theorem dd_X1_rollInto_8 : decode cX1_rollInto 8 = .ok (.aload_n 0, 1) := by decide +kernel
theorem dd_X1_rollInto_9 : decode cX1_rollInto 9 = .ok (.ldc 19, 2) := by decide +kernel
theorem dd_X1_rollInto_11 : decode cX1_rollInto 11 = .ok (.invokevirtual 21, 3) := by decide +kernel
theorem dd_X1_rollInto_14 : decode cX1_rollInto 14 = .ok (.ifCond .eq 10, 3) := by decide +kernel
theorem dd_X1_rollInto_17 : decode cX1_rollInto 17 = .ok (.aload_n 0, 1) := by decide +kernel
theorem dd_X1_rollInto_18 : decode cX1_rollInto 18 = .ok (.invokestatic 25, 3) := by decide +kernel
theorem dd_X1_rollInto_21 : decode cX1_rollInto 21 = .ok (.ifCond .ne 5, 3) := by decide +kernel
theorem dd_X1_rollInto_24 : decode cX1_rollInto 24 = .ok (.iconst (-1), 1) := by decide +kernel
theorem dd_X1_rollInto_25 : decode cX1_rollInto 25 = .ok (.ireturn, 1) := by decide +kernel
theorem dd_X1_rollInto_26 : decode cX1_rollInto 26 = .ok (.aload_n 0, 1) := by decide +kernel
theorem dd_X1_rollInto_27 : decode cX1_rollInto 27 = .ok (.invokevirtual 31, 3) := by decide +kernel
theorem dd_X1_rollInto_30 : decode cX1_rollInto 30 = .ok (.iconst 1, 1) := by decide +kernel
theorem dd_X1_rollInto_31 : decode cX1_rollInto 31 = .ok (.istore_n 2, 1) := by decide +kernel
theorem dd_X1_rollInto_32 : decode cX1_rollInto 32 = .ok (.iload_n 2, 1) := by decide +kernel
theorem dd_X1_rollInto_33 : decode cX1_rollInto 33 = .ok (.sipush 150, 3) := by decide +kernel
theorem dd_X1_rollInto_36 : decode cX1_rollInto 36 = .ok (.if_icmp .gt 37, 3) := by decide +kernel
theorem dd_X1_rollInto_39 : decode cX1_rollInto 39 = .ok (.aload_n 0, 1) := by decide +kernel
theorem dd_X1_rollInto_40 : decode cX1_rollInto 40 = .ok (.getfield 34, 3) := by decide +kernel
theorem dd_X1_rollInto_43 : decode cX1_rollInto 43 = .ok (.ifCond .eq 30, 3) := by decide +kernel
theorem dd_X1_rollInto_46 : decode cX1_rollInto 46 = .ok (.aload_n 0, 1) := by decide +kernel
theorem dd_X1_rollInto_47 : decode cX1_rollInto 47 = .ok (.aload_n 1, 1) := by decide +kernel
theorem dd_X1_rollInto_48 : decode cX1_rollInto 48 = .ok (.invokestatic 38, 3) := by decide +kernel
theorem dd_X1_rollInto_51 : decode cX1_rollInto 51 = .ok (.ifCond .eq 10, 3) := by decide +kernel
theorem dd_X1_rollInto_54 : decode cX1_rollInto 54 = .ok (.aload_n 0, 1) := by decide +kernel
theorem dd_X1_rollInto_55 : decode cX1_rollInto 55 = .ok (.invokestatic 25, 3) := by decide +kernel
theorem dd_X1_rollInto_58 : decode cX1_rollInto 58 = .ok (.ifCond .ne 5, 3) := by decide +kernel
theorem dd_X1_rollInto_61 : decode cX1_rollInto 61 = .ok (.iconst (-1), 1) := by decide +kernel
theorem dd_X1_rollInto_62 : decode cX1_rollInto 62 = .ok (.ireturn, 1) := by decide +kernel
theorem dd_X1_rollInto_63 : decode cX1_rollInto 63 = .ok (.iinc 2 1, 3) := by decide +kernel
theorem dd_X1_rollInto_66 : decode cX1_rollInto 66 = .ok (.aload_n 0, 1) := by decide +kernel
theorem dd_X1_rollInto_67 : decode cX1_rollInto 67 = .ok (.invokevirtual 31, 3) := by decide +kernel
theorem dd_X1_rollInto_70 : decode cX1_rollInto 70 = .ok (.goto (-38), 3) := by decide +kernel
theorem dd_X1_rollInto_73 : decode cX1_rollInto 73 = .ok (.iload_n 2, 1) := by decide +kernel
theorem dd_X1_rollInto_74 : decode cX1_rollInto 74 = .ok (.ireturn, 1) := by decide +kernel
def tb_X1_rollInto (kd : Nat → Nat) (K : zK) : zTab := [(0, zt_aload 1 1), (1, zt_call kd sp_X3_wipe 1 4), (4, zt_aload 0 5), (5, zt_call kd sp_X5_cutFirst 1 8), (8, zt_aload 0 9), (9, zt_const (zR (20 + 0) 0) 11), (11, zt_call kd sp_X5_spells 2 14), (14, zt_if (fun x => x = 0) (fun x => ¬ x = 0) 24 17), (17, zt_aload 0 18), (18, zt_call kd sp_X1_stops 1 21), (21, zt_if (fun x => ¬ x = 0) (fun x => x = 0) 26 24), (24, zt_const (zI (-1)) 25), (25, zt_iret K), (26, zt_aload 0 27), (27, zt_call kd sp_X5_cutNext 1 30), (30, zt_const (zI 1) 31), (31, zt_istore 2 32), (32, zt_iload 2 33), (33, zt_const (zI 150) 36), (36, zt_icmp (fun x y => y < x) (fun x y => ¬ y < x) 73 39), (39, zt_aload 0 40), (40, zt_getI kd 7 4 43), (43, zt_if (fun x => x = 0) (fun x => ¬ x = 0) 73 46), (46, zt_aload 0 47), (47, zt_aload 1 48), (48, zt_call kd sp_X1_itemOnto 2 51), (51, zt_if (fun x => x = 0) (fun x => ¬ x = 0) 61 54), (54, zt_aload 0 55), (55, zt_call kd sp_X1_stops 1 58), (58, zt_if (fun x => ¬ x = 0) (fun x => x = 0) 63 61), (61, zt_const (zI (-1)) 62), (62, zt_iret K), (63, zt_iinc 2 1 66), (66, zt_aload 0 67), (67, zt_call kd sp_X5_cutNext 1 70), (70, zt_goto 32), (73, zt_iload 2 74), (74, zt_iret K)]
set_option maxRecDepth 20000 in
theorem tk_X1_rollInto (d : Nat) (h_X3_wipe : zMS 1 yX3_wipe cX3_wipe 2 none sp_X3_wipe) (h_X5_cutFirst : zMS 4 yX5_cutFirst cX5_cutFirst 1 none sp_X5_cutFirst) (h_X5_spells : zMS 5 yX5_spells cX5_spells 3 (some .boolean) sp_X5_spells) (h_X1_stops : zMS 4 yX1_stops cX1_stops 1 (some .boolean) sp_X1_stops) (h_X5_cutNext : zMS 3 yX5_cutNext cX5_cutNext 2 none sp_X5_cutNext) (h_X1_itemOnto : zMS 6 yX1_itemOnto cX1_itemOnto 2 (some .boolean) sp_X1_itemOnto) : zTrue RX1 cX1_rollInto 3 (some .int) (d + 7) (fun kd K => tb_X1_rollInto kd K) := by
  intro p l e R s m args below meth c D cy A ad bl Qm K C0 hr hlocks hQ
  obtain ⟨hx, hb, hml, hown, hts, hK, hD, hA0, hN, hE, ⟨hR1, hR2⟩, hc1, hc2⟩ := id C0
  unfold tb_X1_rollInto
  refine List.forall_mem_cons.mpr ⟨ok_aload_n hx hb rfl dd_X1_rollInto_0, ?_⟩
  refine List.forall_mem_cons.mpr ⟨ok_callVN (n := 0) zc_X3 rv_X3_wipe C0 (h_X3_wipe (d + 6) (by omega)) (by decide) wd_311 nd_414 wd_310 wd_2 wd_102 ⟨by decide +kernel, by decide +kernel, by decide +kernel⟩ dd_X1_rollInto_1, ?_⟩
  refine List.forall_mem_cons.mpr ⟨ok_aload_n hx hb rfl dd_X1_rollInto_4, ?_⟩
  refine List.forall_mem_cons.mpr ⟨ok_callVN (n := 0) zc_X5 rv_X5_cutFirst C0 (h_X5_cutFirst (d + 6) (by omega)) (by decide) wd_418 nd_415 wd_417 wd_16 wd_106 ⟨by decide +kernel, by decide +kernel, by decide +kernel⟩ dd_X1_rollInto_5, ?_⟩
  refine List.forall_mem_cons.mpr ⟨ok_aload_n hx hb rfl dd_X1_rollInto_8, ?_⟩
  refine List.forall_mem_cons.mpr ⟨ok_str hx hb hown hE (i := 0) (by decide) rfl dd_X1_rollInto_9, ?_⟩
  refine List.forall_mem_cons.mpr ⟨ok_callVN (n := 1) zc_X5 rv_X5_spells C0 (h_X5_spells (d + 6) (by omega)) (by decide) wd_445 nd_442 wd_444 wd_21 wd_106 ⟨by decide +kernel, by decide +kernel, by decide +kernel⟩ dd_X1_rollInto_11, ?_⟩
  refine List.forall_mem_cons.mpr ⟨ok_if_eq hx hb dd_X1_rollInto_14 (by decide), ?_⟩
  refine List.forall_mem_cons.mpr ⟨ok_aload_n hx hb rfl dd_X1_rollInto_17, ?_⟩
  refine List.forall_mem_cons.mpr ⟨ok_callS (n := 1) C0 (h_X1_stops (d + 6) (by omega)) (by decide) wd_496 wd_494 wd_495 wd_110 ⟨by decide +kernel, by decide +kernel, by decide +kernel⟩ dd_X1_rollInto_18, ?_⟩
  refine List.forall_mem_cons.mpr ⟨ok_if_ne hx hb dd_X1_rollInto_21 (by decide), ?_⟩
  refine List.forall_mem_cons.mpr ⟨ok_iconst hx hb dd_X1_rollInto_24 (by decide), ?_⟩
  refine List.forall_mem_cons.mpr ⟨ok_iret hx hb hr hlocks hQ dd_X1_rollInto_25, ?_⟩
  refine List.forall_mem_cons.mpr ⟨ok_aload_n hx hb rfl dd_X1_rollInto_26, ?_⟩
  refine List.forall_mem_cons.mpr ⟨ok_callVN (n := 0) zc_X5 rv_X5_cutNext C0 (h_X5_cutNext (d + 6) (by omega)) (by decide) wd_422 nd_497 wd_421 wd_17 wd_106 ⟨by decide +kernel, by decide +kernel, by decide +kernel⟩ dd_X1_rollInto_27, ?_⟩
  refine List.forall_mem_cons.mpr ⟨ok_iconst hx hb dd_X1_rollInto_30 (by decide), ?_⟩
  refine List.forall_mem_cons.mpr ⟨ok_istore_n hx hb rfl dd_X1_rollInto_31, ?_⟩
  refine List.forall_mem_cons.mpr ⟨ok_iload_n hx hb rfl dd_X1_rollInto_32, ?_⟩
  refine List.forall_mem_cons.mpr ⟨ok_sipush hx hb dd_X1_rollInto_33 (by decide), ?_⟩
  refine List.forall_mem_cons.mpr ⟨ok_icmp_gt hx hb dd_X1_rollInto_36 (by decide), ?_⟩
  refine List.forall_mem_cons.mpr ⟨ok_aload_n hx hb rfl dd_X1_rollInto_39, ?_⟩
  refine List.forall_mem_cons.mpr ⟨ok_getIN (j := 4) hx hb hts zi_X5 hown hK zc_X5 (by decide) rfl (fun t fl h => by cases h; rfl) (va_Nw.use rfl (hN _ nd_254)) dd_X1_rollInto_40, ?_⟩
  refine List.forall_mem_cons.mpr ⟨ok_if_eq hx hb dd_X1_rollInto_43 (by decide), ?_⟩
  refine List.forall_mem_cons.mpr ⟨ok_aload_n hx hb rfl dd_X1_rollInto_46, ?_⟩
  refine List.forall_mem_cons.mpr ⟨ok_aload_n hx hb rfl dd_X1_rollInto_47, ?_⟩
  refine List.forall_mem_cons.mpr ⟨ok_callS (n := 2) C0 (h_X1_itemOnto (d + 6) (by omega)) (by decide) wd_500 wd_498 wd_499 wd_110 ⟨by decide +kernel, by decide +kernel, by decide +kernel⟩ dd_X1_rollInto_48, ?_⟩
  refine List.forall_mem_cons.mpr ⟨ok_if_eq hx hb dd_X1_rollInto_51 (by decide), ?_⟩
  refine List.forall_mem_cons.mpr ⟨ok_aload_n hx hb rfl dd_X1_rollInto_54, ?_⟩
  refine List.forall_mem_cons.mpr ⟨ok_callS (n := 1) C0 (h_X1_stops (d + 6) (by omega)) (by decide) wd_496 wd_494 wd_495 wd_110 ⟨by decide +kernel, by decide +kernel, by decide +kernel⟩ dd_X1_rollInto_55, ?_⟩
  refine List.forall_mem_cons.mpr ⟨ok_if_ne hx hb dd_X1_rollInto_58 (by decide), ?_⟩
  refine List.forall_mem_cons.mpr ⟨ok_iconst hx hb dd_X1_rollInto_61 (by decide), ?_⟩
  refine List.forall_mem_cons.mpr ⟨ok_iret hx hb hr hlocks hQ dd_X1_rollInto_62, ?_⟩
  refine List.forall_mem_cons.mpr ⟨ok_iinc hx hb dd_X1_rollInto_63 (by decide), ?_⟩
  refine List.forall_mem_cons.mpr ⟨ok_aload_n hx hb rfl dd_X1_rollInto_66, ?_⟩
  refine List.forall_mem_cons.mpr ⟨ok_callVN (n := 0) zc_X5 rv_X5_cutNext C0 (h_X5_cutNext (d + 6) (by omega)) (by decide) wd_422 nd_497 wd_421 wd_17 wd_106 ⟨by decide +kernel, by decide +kernel, by decide +kernel⟩ dd_X1_rollInto_67, ?_⟩
  refine List.forall_mem_cons.mpr ⟨ok_goto hx hb dd_X1_rollInto_70 (by decide), ?_⟩
  refine List.forall_mem_cons.mpr ⟨ok_iload_n hx hb rfl dd_X1_rollInto_73, ?_⟩
  refine List.forall_mem_cons.mpr ⟨ok_iret hx hb hr hlocks hQ dd_X1_rollInto_74, ?_⟩
  exact fun _ h => absurd h List.not_mem_nil
set_option maxRecDepth 100000 in
theorem vc_X1_rollInto_0 {kd : Nat → Nat} {K : zK} {X : zX} (hX : ∀ (n pc : Nat) (ls : zLS) (st : List zV) (M : zM), zrun (tb_X1_rollInto kd K) [(32, [])] n X pc ls st M → X pc ls st M) {t : Nat} {u : Nat} {M : zM} (hk0 : kd t = 7) (hk1 : kd u = 3) (h : ∀ S1 : zB, (RpS S1 (sk_0)) → ∀ M1 : zM, (M1 = zbs M u S1) → ∃ b2 : List Int, (RpB (M1.1 t) b2) ∧ ∀ S2 : zB, (RpK S2 b2 (tok b2 0)) → ∀ M2 : zM, (M2 = zbs M1 t S2) → ∃ b3 : List Int, ∃ T3 : Tk, (RpK (M2.1 t) b3 T3) ∧ (20 ≤ 20 ∧ 20 < 24) ∧ ∀ v3 : Int32, (v3 = zp (isWd b3 T3 20 = true)) → ((v3 = 0) → K (some (zI ((-1 : Int32)))) M2) ∧ ((¬ v3 = 0) → ∃ b4 : List Int, ∃ T4 : Tk, (RpK (M2.1 t) b4 T4) ∧ ∀ v4 : Int32, (v4 = zp ((tok b4 T4.2.2.2).2.1 = 2)) → ∀ S4 : zB, (RpK S4 b4 (tok b4 T4.2.2.2)) → ∀ M4 : zM, (M4 = zbs M2 t S4) → ((¬ v4 = 0) → ∃ b5 : List Int, (RpB (M4.1 t) b5) ∧ ∃ p5 : Nat, ((M4.1 t 0 2).toInt = (p5 : Int)) ∧ (p5 ≤ b5.length) ∧ ∀ S5 : zB, (RpK S5 b5 (tok b5 p5)) → ∀ M5 : zM, (M5 = zbs M4 t S5) → X 32 [some (zR t 0), some (zR u 0), some (zI ((1 : Int32)))] [] M5) ∧ ((v4 = 0) → K (some (zI ((-1 : Int32)))) M4))) : X 0 [some (zR t 0), some (zR u 0), none] [] M := hX 17 0 _ [] M (show (kd u = 3) ∧ ∀ S1 : zB, (RpS S1 (sk_0)) → ∀ M1 : zM, (M1 = zbs M u S1) → (kd t = 7) ∧ ∃ b2 : List Int, (RpB (M1.1 t) b2) ∧ ∀ S2 : zB, (RpK S2 b2 (tok b2 0)) → ∀ M2 : zM, (M2 = zbs M1 t S2) → (kd t = 7) ∧ ∃ b3 : List Int, ∃ T3 : Tk, (RpK (M2.1 t) b3 T3) ∧ (20 ≤ 20 ∧ 20 < 24) ∧ ∀ v3 : Int32, (v3 = zp (isWd b3 T3 20 = true)) → ((v3 = 0) → K (some (zI ((-1 : Int32)))) M2) ∧ ((¬ v3 = 0) → (kd t = 7) ∧ ∃ b4 : List Int, ∃ T4 : Tk, (RpK (M2.1 t) b4 T4) ∧ ∀ v4 : Int32, (v4 = zp ((tok b4 T4.2.2.2).2.1 = 2)) → ∀ S4 : zB, (RpK S4 b4 (tok b4 T4.2.2.2)) → ∀ M4 : zM, (M4 = zbs M2 t S4) → ((¬ v4 = 0) → (kd t = 7) ∧ ∃ b5 : List Int, (RpB (M4.1 t) b5) ∧ ∃ p5 : Nat, ((M4.1 t 0 2).toInt = (p5 : Int)) ∧ (p5 ≤ b5.length) ∧ ∀ S5 : zB, (RpK S5 b5 (tok b5 p5)) → ∀ M5 : zM, (M5 = zbs M4 t S5) → X 32 [some (zR t 0), some (zR u 0), some (zI ((1 : Int32)))] [] M5) ∧ ((v4 = 0) → K (some (zI ((-1 : Int32)))) M4)) from ⟨hk1, fun S1 => have h := h S1; fun q => have h := h q; fun M1 => have h := h M1; fun q => have h := h q; ⟨hk0, h.elim (fun b2 h => ⟨b2, ⟨h.1, have h := h.2; fun S2 => have h := h S2; fun q => have h := h q; fun M2 => have h := h M2; fun q => have h := h q; ⟨hk0, h.elim (fun b3 h => ⟨b3, h.elim (fun T3 h => ⟨T3, ⟨h.1, have h := h.2; ⟨h.1, have h := h.2; fun v3 => have h := h v3; fun q => have h := h q; ⟨fun q => have h := h.1 q; h, fun q => have h := h.2 q; ⟨hk0, h.elim (fun b4 h => ⟨b4, h.elim (fun T4 h => ⟨T4, ⟨h.1, have h := h.2; fun v4 => have h := h v4; fun q => have h := h q; fun S4 => have h := h S4; fun q => have h := h q; fun M4 => have h := h M4; fun q => have h := h q; ⟨fun q => have h := h.1 q; ⟨hk0, h.elim (fun b5 h => ⟨b5, ⟨h.1, have h := h.2; h.elim (fun p5 h => ⟨p5, ⟨h.1, have h := h.2; ⟨h.1, have h := h.2; fun S5 => have h := h S5; fun q => have h := h q; fun M5 => have h := h M5; fun q => have h := h q; h⟩⟩⟩)⟩⟩)⟩, fun q => have h := h.2 q; h⟩⟩⟩)⟩)⟩⟩⟩⟩⟩)⟩)⟩⟩⟩)⟩⟩)
set_option maxRecDepth 100000 in
theorem vc_X1_rollInto_32 {kd : Nat → Nat} {K : zK} {X : zX} (hX : ∀ (n pc : Nat) (ls : zLS) (st : List zV) (M : zM), zrun (tb_X1_rollInto kd K) [(32, [])] n X pc ls st M → X pc ls st M) {t : Nat} {u : Nat} {n : Int32} {M : zM} (hk0 : kd t = 7) (hk1 : kd u = 3) (h : (((150 : Int32) < n) → K (some (zI (n))) M) ∧ ((¬ (150 : Int32) < n) → (((M.1 t 0 4) = 0) → K (some (zI (n))) M) ∧ ((¬ (M.1 t 0 4) = 0) → ∃ b1 : List Int, ∃ T1 : Tk, (RpK (M.1 t) b1 T1) ∧ ∃ a1 : Sk, (RpS (M.1 u) a1) ∧ ∀ v1 : Int32, (v1 = zp ((rdIt b1 T1 a1).1 = true)) → ∀ S11 : zB, (RpK S11 b1 (rdIt b1 T1 a1).2.1) → ∀ S21 : zB, (RpS S21 (rdIt b1 T1 a1).2.2) → ∀ M1 : zM, (M1 = zbs (zbs M t S11) u S21) → ((v1 = 0) → K (some (zI ((-1 : Int32)))) M1) ∧ ((¬ v1 = 0) → ∃ b2 : List Int, ∃ T2 : Tk, (RpK (M1.1 t) b2 T2) ∧ ∀ v2 : Int32, (v2 = zp ((tok b2 T2.2.2.2).2.1 = 2)) → ∀ S2 : zB, (RpK S2 b2 (tok b2 T2.2.2.2)) → ∀ M2 : zM, (M2 = zbs M1 t S2) → ((¬ v2 = 0) → ∃ b3 : List Int, (RpB (M2.1 t) b3) ∧ ∃ p3 : Nat, ((M2.1 t 0 2).toInt = (p3 : Int)) ∧ (p3 ≤ b3.length) ∧ ∀ S3 : zB, (RpK S3 b3 (tok b3 p3)) → ∀ M3 : zM, (M3 = zbs M2 t S3) → X 32 [some (zR t 0), some (zR u 0), some (zI (n + 1))] [] M3) ∧ ((v2 = 0) → K (some (zI ((-1 : Int32)))) M2))))) : X 32 [some (zR t 0), some (zR u 0), some (zI (n))] [] M := hX 19 32 _ [] M (show (((150 : Int32) < n) → K (some (zI (n))) M) ∧ ((¬ (150 : Int32) < n) → (kd t = 7) ∧ (((M.1 t 0 4) = 0) → K (some (zI (n))) M) ∧ ((¬ (M.1 t 0 4) = 0) → (kd t = 7) ∧ (kd u = 3) ∧ ∃ b1 : List Int, ∃ T1 : Tk, (RpK (M.1 t) b1 T1) ∧ ∃ a1 : Sk, (RpS (M.1 u) a1) ∧ ∀ v1 : Int32, (v1 = zp ((rdIt b1 T1 a1).1 = true)) → ∀ S11 : zB, (RpK S11 b1 (rdIt b1 T1 a1).2.1) → ∀ S21 : zB, (RpS S21 (rdIt b1 T1 a1).2.2) → ∀ M1 : zM, (M1 = zbs (zbs M t S11) u S21) → ((v1 = 0) → K (some (zI ((-1 : Int32)))) M1) ∧ ((¬ v1 = 0) → (kd t = 7) ∧ ∃ b2 : List Int, ∃ T2 : Tk, (RpK (M1.1 t) b2 T2) ∧ ∀ v2 : Int32, (v2 = zp ((tok b2 T2.2.2.2).2.1 = 2)) → ∀ S2 : zB, (RpK S2 b2 (tok b2 T2.2.2.2)) → ∀ M2 : zM, (M2 = zbs M1 t S2) → ((¬ v2 = 0) → (kd t = 7) ∧ ∃ b3 : List Int, (RpB (M2.1 t) b3) ∧ ∃ p3 : Nat, ((M2.1 t 0 2).toInt = (p3 : Int)) ∧ (p3 ≤ b3.length) ∧ ∀ S3 : zB, (RpK S3 b3 (tok b3 p3)) → ∀ M3 : zM, (M3 = zbs M2 t S3) → X 32 [some (zR t 0), some (zR u 0), some (zI (n + 1))] [] M3) ∧ ((v2 = 0) → K (some (zI ((-1 : Int32)))) M2)))) from ⟨fun q => have h := h.1 q; h, fun q => have h := h.2 q; ⟨hk0, ⟨fun q => have h := h.1 q; h, fun q => have h := h.2 q; ⟨hk0, ⟨hk1, h.elim (fun b1 h => ⟨b1, h.elim (fun T1 h => ⟨T1, ⟨h.1, have h := h.2; h.elim (fun a1 h => ⟨a1, ⟨h.1, have h := h.2; fun v1 => have h := h v1; fun q => have h := h q; fun S11 => have h := h S11; fun q => have h := h q; fun S21 => have h := h S21; fun q => have h := h q; fun M1 => have h := h M1; fun q => have h := h q; ⟨fun q => have h := h.1 q; h, fun q => have h := h.2 q; ⟨hk0, h.elim (fun b2 h => ⟨b2, h.elim (fun T2 h => ⟨T2, ⟨h.1, have h := h.2; fun v2 => have h := h v2; fun q => have h := h q; fun S2 => have h := h S2; fun q => have h := h q; fun M2 => have h := h M2; fun q => have h := h q; ⟨fun q => have h := h.1 q; ⟨hk0, h.elim (fun b3 h => ⟨b3, ⟨h.1, have h := h.2; h.elim (fun p3 h => ⟨p3, ⟨h.1, have h := h.2; ⟨h.1, have h := h.2; fun S3 => have h := h S3; fun q => have h := h q; fun M3 => have h := h M3; fun q => have h := h q; h⟩⟩⟩)⟩⟩)⟩, fun q => have h := h.2 q; h⟩⟩⟩)⟩)⟩⟩⟩⟩)⟩⟩)⟩)⟩⟩⟩⟩⟩)
