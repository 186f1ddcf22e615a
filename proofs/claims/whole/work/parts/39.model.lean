
/-! the model: a skin in a row of 127 -/
def RpF (f : Nat → Int32) (a : Sk) : Prop := okSk a ∧ (∀ c, c < 6 → (f c).toInt = ((a.1 c).length : Int) ∧ ∀ (i : Nat) (l : Ly), (a.1 c)[i]? = some l → ∀ j : Nat, j < 5 → (f (6 + 20 * c + 5 * i + j)).toInt = ly_f l j) ∧ (f 126).toInt = a.2
def fr0 (M M' : zM) : Prop := (∀ n, n ≠ 9 → M'.1 n = M.1 n) ∧ (∀ n, n ≠ 9 → M'.2 n = M.2 n)
def sp_X8_in : zSpec := fun kd as M K => match as with
  | [.inr (.inl p), .inr (.inl q), .inr (.inl r)] => ∀ v : Int32, (v = zp (q.toInt ≤ p.toInt ∧ p.toInt ≤ r.toInt)) → K (some (.inl v)) M
  | _ => False
theorem dd_X8_in_0 : decode cX8_in 0 = .ok (.lload_n 0, 1) := by decide +kernel
theorem dd_X8_in_1 : decode cX8_in 1 = .ok (.lload_n 2, 1) := by decide +kernel
theorem dd_X8_in_2 : decode cX8_in 2 = .ok (.lcmp, 1) := by decide +kernel
theorem dd_X8_in_3 : decode cX8_in 3 = .ok (.ifCond .lt 14, 3) := by decide +kernel
theorem dd_X8_in_6 : decode cX8_in 6 = .ok (.lload_n 0, 1) := by decide +kernel
theorem dd_X8_in_7 : decode cX8_in 7 = .ok (.lload 4, 2) := by decide +kernel
theorem dd_X8_in_9 : decode cX8_in 9 = .ok (.lcmp, 1) := by decide +kernel
theorem dd_X8_in_10 : decode cX8_in 10 = .ok (.ifCond .gt 7, 3) := by decide +kernel
theorem dd_X8_in_13 : decode cX8_in 13 = .ok (.iconst 1, 1) := by decide +kernel
theorem dd_X8_in_14 : decode cX8_in 14 = .ok (.goto 4, 3) := by decide +kernel
theorem dd_X8_in_17 : decode cX8_in 17 = .ok (.iconst 0, 1) := by decide +kernel
theorem dd_X8_in_18 : decode cX8_in 18 = .ok (.ireturn, 1) := by decide +kernel
def tb_X8_in (kd : Nat → Nat) (K : zK) : zTab := [(0, zt_lload 0 1), (1, zt_lload 2 2), (2, zt_lcmp 3), (3, zt_if (fun x => x < 0) (fun x => ¬ x < 0) 17 6), (6, zt_lload 0 7), (7, zt_lload 4 9), (9, zt_lcmp 10), (10, zt_if (fun x => 0 < x) (fun x => ¬ 0 < x) 17 13), (13, zt_const (zI 1) 14), (14, zt_goto 18), (17, zt_const (zI 0) 18), (18, zt_zret K)]
set_option maxRecDepth 20000 in
theorem tk_X8_in (d : Nat)  : zTrue RX8 cX8_in 6 (some .boolean) (d + 1) (fun kd K => tb_X8_in kd K) := by
  intro p l e R s m args below meth c D cy A ad bl Qm K C0 hr hlocks hQ
  obtain ⟨hx, hb, hml, hown, hts, hK, hD, hA0, hN, hE, ⟨hR1, hR2⟩, hc1, hc2⟩ := id C0
  unfold tb_X8_in
  refine List.forall_mem_cons.mpr ⟨ok_lload_n hx hb rfl dd_X8_in_0, ?_⟩
  refine List.forall_mem_cons.mpr ⟨ok_lload_n hx hb rfl dd_X8_in_1, ?_⟩
  refine List.forall_mem_cons.mpr ⟨ok_lcmp hx hb dd_X8_in_2, ?_⟩
  refine List.forall_mem_cons.mpr ⟨ok_if_lt hx hb dd_X8_in_3 (by decide), ?_⟩
  refine List.forall_mem_cons.mpr ⟨ok_lload_n hx hb rfl dd_X8_in_6, ?_⟩
  refine List.forall_mem_cons.mpr ⟨ok_lload hx hb dd_X8_in_7, ?_⟩
  refine List.forall_mem_cons.mpr ⟨ok_lcmp hx hb dd_X8_in_9, ?_⟩
  refine List.forall_mem_cons.mpr ⟨ok_if_gt hx hb dd_X8_in_10 (by decide), ?_⟩
  refine List.forall_mem_cons.mpr ⟨ok_iconst hx hb dd_X8_in_13 (by decide), ?_⟩
  refine List.forall_mem_cons.mpr ⟨ok_goto hx hb dd_X8_in_14 (by decide), ?_⟩
  refine List.forall_mem_cons.mpr ⟨ok_iconst hx hb dd_X8_in_17 (by decide), ?_⟩
  refine List.forall_mem_cons.mpr ⟨ok_zret hx hb hr hlocks hQ dd_X8_in_18, ?_⟩
  exact fun _ h => absurd h List.not_mem_nil
set_option maxRecDepth 100000 in
theorem vc_X8_in_0 {kd : Nat → Nat} {K : zK} {X : zX} (hX : ∀ (n pc : Nat) (ls : zLS) (st : List zV) (M : zM), zrun (tb_X8_in kd K) [] n X pc ls st M → X pc ls st M) {p : Int64} {q : Int64} {r : Int64} {M : zM}  (h : (((lg_cmp p q) < 0) → K (some (zI ((0 : Int32)))) M) ∧ ((¬ (lg_cmp p q) < 0) → ((0 < (lg_cmp p r)) → K (some (zI ((0 : Int32)))) M) ∧ ((¬ 0 < (lg_cmp p r)) → K (some (zI ((1 : Int32)))) M))) : X 0 [some (zL (p)), none, some (zL (q)), none, some (zL (r)), none] [] M := hX 12 0 _ [] M (show (((lg_cmp p q) < 0) → ((0 : Int32) = 0 ∨ (0 : Int32) = 1) ∧ K (some (zI ((0 : Int32)))) M) ∧ ((¬ (lg_cmp p q) < 0) → ((0 < (lg_cmp p r)) → ((0 : Int32) = 0 ∨ (0 : Int32) = 1) ∧ K (some (zI ((0 : Int32)))) M) ∧ ((¬ 0 < (lg_cmp p r)) → ((1 : Int32) = 0 ∨ (1 : Int32) = 1) ∧ K (some (zI ((1 : Int32)))) M)) from ⟨fun q => have h := h.1 q; ⟨(Or.inl rfl), h⟩, fun q => have h := h.2 q; ⟨fun q => have h := h.1 q; ⟨(Or.inl rfl), h⟩, fun q => have h := h.2 q; ⟨(Or.inr rfl), h⟩⟩⟩)
def sp_X8_isCell : zSpec := fun kd as M K => match as with
  | [.inl c] => ∀ v : Int32, (v = zp (isC c.toInt)) → K (some (.inl v)) M
  | _ => False
theorem dd_X8_isCell_0 : decode cX8_isCell 0 = .ok (.iload_n 0, 1) := by decide +kernel
theorem dd_X8_isCell_1 : decode cX8_isCell 1 = .ok (.i2l, 1) := by decide +kernel
theorem dd_X8_isCell_2 : decode cX8_isCell 2 = .ok (.lconst 0, 1) := by decide +kernel
theorem dd_X8_isCell_3 : decode cX8_isCell 3 = .ok (.ldc2_w 52, 3) := by decide +kernel
theorem dd_X8_isCell_6 : decode cX8_isCell 6 = .ok (.invokestatic 54, 3) := by decide +kernel
theorem dd_X8_isCell_9 : decode cX8_isCell 9 = .ok (.ireturn, 1) := by decide +kernel
def tb_X8_isCell (kd : Nat → Nat) (K : zK) : zTab := [(0, zt_iload 0 1), (1, zt_un (fun x => zL x.toInt64) 2), (2, zt_const (zL 0) 3), (3, zt_const (zL 5) 6), (6, zt_call kd sp_X8_in 3 9), (9, zt_zret K)]
set_option maxRecDepth 20000 in
theorem tk_X8_isCell (d : Nat) (h_X8_in : zMS 1 yX8_in cX8_in 6 (some .boolean) sp_X8_in) : zTrue RX8 cX8_isCell 1 (some .boolean) (d + 2) (fun kd K => tb_X8_isCell kd K) := by
  intro p l e R s m args below meth c D cy A ad bl Qm K C0 hr hlocks hQ
  obtain ⟨hx, hb, hml, hown, hts, hK, hD, hA0, hN, hE, ⟨hR1, hR2⟩, hc1, hc2⟩ := id C0
  unfold tb_X8_isCell
  refine List.forall_mem_cons.mpr ⟨ok_iload_n hx hb rfl dd_X8_isCell_0, ?_⟩
  refine List.forall_mem_cons.mpr ⟨ok_i2l hx hb dd_X8_isCell_1, ?_⟩
  refine List.forall_mem_cons.mpr ⟨ok_lconst hx hb dd_X8_isCell_2 (by decide), ?_⟩
  refine List.forall_mem_cons.mpr ⟨ok_ldc2 hx hb hown (hts _ wd_925) dd_X8_isCell_3, ?_⟩
  refine List.forall_mem_cons.mpr ⟨ok_callS (n := 3) C0 (h_X8_in (d + 1) (by omega)) (by decide) wd_928 wd_926 wd_927 wd_107 ⟨by decide +kernel, by decide +kernel, by decide +kernel⟩ dd_X8_isCell_6, ?_⟩
  refine List.forall_mem_cons.mpr ⟨ok_zret hx hb hr hlocks hQ dd_X8_isCell_9, ?_⟩
  exact fun _ h => absurd h List.not_mem_nil
set_option maxRecDepth 100000 in
theorem vc_X8_isCell_0 {kd : Nat → Nat} {K : zK} {X : zX} (hX : ∀ (n pc : Nat) (ls : zLS) (st : List zV) (M : zM), zrun (tb_X8_isCell kd K) [] n X pc ls st M → X pc ls st M) {c : Int32} {M : zM}  (h : ∀ v1 : Int32, (v1 = zp ((0 : Int64).toInt ≤ c.toInt64.toInt ∧ c.toInt64.toInt ≤ (5 : Int64).toInt)) → (v1 = 0 ∨ v1 = 1) ∧ K (some (zI (v1))) M) : X 0 [some (zI (c))] [] M := hX 7 0 _ [] M (show ∀ v1 : Int32, (v1 = zp ((0 : Int64).toInt ≤ c.toInt64.toInt ∧ c.toInt64.toInt ≤ (5 : Int64).toInt)) → (v1 = 0 ∨ v1 = 1) ∧ K (some (zI (v1))) M from fun v1 => have h := h v1; fun q => have h := h q; ⟨h.1, have h := h.2; h⟩)
def sp_X8_isThing : zSpec := fun kd as M K => match as with
  | [.inl c] => ∀ v : Int32, (v = zp (isT c.toInt)) → K (some (.inl v)) M
  | _ => False
theorem dd_X8_isThing_0 : decode cX8_isThing 0 = .ok (.iload_n 0, 1) := by decide +kernel
theorem dd_X8_isThing_1 : decode cX8_isThing 1 = .ok (.i2l, 1) := by decide +kernel
theorem dd_X8_isThing_2 : decode cX8_isThing 2 = .ok (.lconst 0, 1) := by decide +kernel
theorem dd_X8_isThing_3 : decode cX8_isThing 3 = .ok (.ldc2_w 58, 3) := by decide +kernel
theorem dd_X8_isThing_6 : decode cX8_isThing 6 = .ok (.invokestatic 54, 3) := by decide +kernel
theorem dd_X8_isThing_9 : decode cX8_isThing 9 = .ok (.ireturn, 1) := by decide +kernel
def tb_X8_isThing (kd : Nat → Nat) (K : zK) : zTab := [(0, zt_iload 0 1), (1, zt_un (fun x => zL x.toInt64) 2), (2, zt_const (zL 0) 3), (3, zt_const (zL 4) 6), (6, zt_call kd sp_X8_in 3 9), (9, zt_zret K)]
set_option maxRecDepth 20000 in
theorem tk_X8_isThing (d : Nat) (h_X8_in : zMS 1 yX8_in cX8_in 6 (some .boolean) sp_X8_in) : zTrue RX8 cX8_isThing 1 (some .boolean) (d + 2) (fun kd K => tb_X8_isThing kd K) := by
  intro p l e R s m args below meth c D cy A ad bl Qm K C0 hr hlocks hQ
  obtain ⟨hx, hb, hml, hown, hts, hK, hD, hA0, hN, hE, ⟨hR1, hR2⟩, hc1, hc2⟩ := id C0
  unfold tb_X8_isThing
  refine List.forall_mem_cons.mpr ⟨ok_iload_n hx hb rfl dd_X8_isThing_0, ?_⟩
  refine List.forall_mem_cons.mpr ⟨ok_i2l hx hb dd_X8_isThing_1, ?_⟩
  refine List.forall_mem_cons.mpr ⟨ok_lconst hx hb dd_X8_isThing_2 (by decide), ?_⟩
  refine List.forall_mem_cons.mpr ⟨ok_ldc2 hx hb hown (hts _ wd_932) dd_X8_isThing_3, ?_⟩
  refine List.forall_mem_cons.mpr ⟨ok_callS (n := 3) C0 (h_X8_in (d + 1) (by omega)) (by decide) wd_928 wd_926 wd_927 wd_107 ⟨by decide +kernel, by decide +kernel, by decide +kernel⟩ dd_X8_isThing_6, ?_⟩
  refine List.forall_mem_cons.mpr ⟨ok_zret hx hb hr hlocks hQ dd_X8_isThing_9, ?_⟩
  exact fun _ h => absurd h List.not_mem_nil
set_option maxRecDepth 100000 in
theorem vc_X8_isThing_0 {kd : Nat → Nat} {K : zK} {X : zX} (hX : ∀ (n pc : Nat) (ls : zLS) (st : List zV) (M : zM), zrun (tb_X8_isThing kd K) [] n X pc ls st M → X pc ls st M) {c : Int32} {M : zM}  (h : ∀ v1 : Int32, (v1 = zp ((0 : Int64).toInt ≤ c.toInt64.toInt ∧ c.toInt64.toInt ≤ (4 : Int64).toInt)) → (v1 = 0 ∨ v1 = 1) ∧ K (some (zI (v1))) M) : X 0 [some (zI (c))] [] M := hX 7 0 _ [] M (show ∀ v1 : Int32, (v1 = zp ((0 : Int64).toInt ≤ c.toInt64.toInt ∧ c.toInt64.toInt ≤ (4 : Int64).toInt)) → (v1 = 0 ∨ v1 = 1) ∧ K (some (zI (v1))) M from fun v1 => have h := h v1; fun q => have h := h q; ⟨h.1, have h := h.2; h⟩)
def sp_X8_isYear : zSpec := fun kd as M K => match as with
  | [.inl c] => ∀ v : Int32, (v = zp (isY c.toInt)) → K (some (.inl v)) M
  | _ => False
theorem dd_X8_isYear_0 : decode cX8_isYear 0 = .ok (.iload_n 0, 1) := by decide +kernel
theorem dd_X8_isYear_1 : decode cX8_isYear 1 = .ok (.i2l, 1) := by decide +kernel
theorem dd_X8_isYear_2 : decode cX8_isYear 2 = .ok (.lconst 0, 1) := by decide +kernel
theorem dd_X8_isYear_3 : decode cX8_isYear 3 = .ok (.ldc2_w 60, 3) := by decide +kernel
theorem dd_X8_isYear_6 : decode cX8_isYear 6 = .ok (.invokestatic 54, 3) := by decide +kernel
theorem dd_X8_isYear_9 : decode cX8_isYear 9 = .ok (.ireturn, 1) := by decide +kernel
def tb_X8_isYear (kd : Nat → Nat) (K : zK) : zTab := [(0, zt_iload 0 1), (1, zt_un (fun x => zL x.toInt64) 2), (2, zt_const (zL 0) 3), (3, zt_const (zL 999) 6), (6, zt_call kd sp_X8_in 3 9), (9, zt_zret K)]
set_option maxRecDepth 20000 in
theorem tk_X8_isYear (d : Nat) (h_X8_in : zMS 1 yX8_in cX8_in 6 (some .boolean) sp_X8_in) : zTrue RX8 cX8_isYear 1 (some .boolean) (d + 2) (fun kd K => tb_X8_isYear kd K) := by
  intro p l e R s m args below meth c D cy A ad bl Qm K C0 hr hlocks hQ
  obtain ⟨hx, hb, hml, hown, hts, hK, hD, hA0, hN, hE, ⟨hR1, hR2⟩, hc1, hc2⟩ := id C0
  unfold tb_X8_isYear
  refine List.forall_mem_cons.mpr ⟨ok_iload_n hx hb rfl dd_X8_isYear_0, ?_⟩
  refine List.forall_mem_cons.mpr ⟨ok_i2l hx hb dd_X8_isYear_1, ?_⟩
  refine List.forall_mem_cons.mpr ⟨ok_lconst hx hb dd_X8_isYear_2 (by decide), ?_⟩
  refine List.forall_mem_cons.mpr ⟨ok_ldc2 hx hb hown (hts _ wd_996) dd_X8_isYear_3, ?_⟩
  refine List.forall_mem_cons.mpr ⟨ok_callS (n := 3) C0 (h_X8_in (d + 1) (by omega)) (by decide) wd_928 wd_926 wd_927 wd_107 ⟨by decide +kernel, by decide +kernel, by decide +kernel⟩ dd_X8_isYear_6, ?_⟩
  refine List.forall_mem_cons.mpr ⟨ok_zret hx hb hr hlocks hQ dd_X8_isYear_9, ?_⟩
  exact fun _ h => absurd h List.not_mem_nil
set_option maxRecDepth 100000 in
theorem vc_X8_isYear_0 {kd : Nat → Nat} {K : zK} {X : zX} (hX : ∀ (n pc : Nat) (ls : zLS) (st : List zV) (M : zM), zrun (tb_X8_isYear kd K) [] n X pc ls st M → X pc ls st M) {c : Int32} {M : zM}  (h : ∀ v1 : Int32, (v1 = zp ((0 : Int64).toInt ≤ c.toInt64.toInt ∧ c.toInt64.toInt ≤ (999 : Int64).toInt)) → (v1 = 0 ∨ v1 = 1) ∧ K (some (zI (v1))) M) : X 0 [some (zI (c))] [] M := hX 7 0 _ [] M (show ∀ v1 : Int32, (v1 = zp ((0 : Int64).toInt ≤ c.toInt64.toInt ∧ c.toInt64.toInt ≤ (999 : Int64).toInt)) → (v1 = 0 ∨ v1 = 1) ∧ K (some (zI (v1))) M from fun v1 => have h := h v1; fun q => have h := h q; ⟨h.1, have h := h.2; h⟩)
def sp_X8_isSmall : zSpec := fun kd as M K => match as with
  | [.inl c] => ∀ v : Int32, (v = zp (isLt c.toInt = true)) → K (some (.inl v)) M
  | _ => False
theorem dd_X8_isSmall_0 : decode cX8_isSmall 0 = .ok (.iload_n 0, 1) := by decide +kernel
theorem dd_X8_isSmall_1 : decode cX8_isSmall 1 = .ok (.i2l, 1) := by decide +kernel
theorem dd_X8_isSmall_2 : decode cX8_isSmall 2 = .ok (.ldc2_w 248, 3) := by decide +kernel
theorem dd_X8_isSmall_5 : decode cX8_isSmall 5 = .ok (.ldc2_w 250, 3) := by decide +kernel
theorem dd_X8_isSmall_8 : decode cX8_isSmall 8 = .ok (.invokestatic 54, 3) := by decide +kernel
theorem dd_X8_isSmall_11 : decode cX8_isSmall 11 = .ok (.ireturn, 1) := by decide +kernel
def tb_X8_isSmall (kd : Nat → Nat) (K : zK) : zTab := [(0, zt_iload 0 1), (1, zt_un (fun x => zL x.toInt64) 2), (2, zt_const (zL 97) 5), (5, zt_const (zL 122) 8), (8, zt_call kd sp_X8_in 3 11), (11, zt_zret K)]
set_option maxRecDepth 20000 in
theorem tk_X8_isSmall (d : Nat) (h_X8_in : zMS 1 yX8_in cX8_in 6 (some .boolean) sp_X8_in) : zTrue RX8 cX8_isSmall 1 (some .boolean) (d + 2) (fun kd K => tb_X8_isSmall kd K) := by
  intro p l e R s m args below meth c D cy A ad bl Qm K C0 hr hlocks hQ
  obtain ⟨hx, hb, hml, hown, hts, hK, hD, hA0, hN, hE, ⟨hR1, hR2⟩, hc1, hc2⟩ := id C0
  unfold tb_X8_isSmall
  refine List.forall_mem_cons.mpr ⟨ok_iload_n hx hb rfl dd_X8_isSmall_0, ?_⟩
  refine List.forall_mem_cons.mpr ⟨ok_i2l hx hb dd_X8_isSmall_1, ?_⟩
  refine List.forall_mem_cons.mpr ⟨ok_ldc2 hx hb hown (hts _ wd_1176) dd_X8_isSmall_2, ?_⟩
  refine List.forall_mem_cons.mpr ⟨ok_ldc2 hx hb hown (hts _ wd_1177) dd_X8_isSmall_5, ?_⟩
  refine List.forall_mem_cons.mpr ⟨ok_callS (n := 3) C0 (h_X8_in (d + 1) (by omega)) (by decide) wd_928 wd_926 wd_927 wd_107 ⟨by decide +kernel, by decide +kernel, by decide +kernel⟩ dd_X8_isSmall_8, ?_⟩
  refine List.forall_mem_cons.mpr ⟨ok_zret hx hb hr hlocks hQ dd_X8_isSmall_11, ?_⟩
  exact fun _ h => absurd h List.not_mem_nil
set_option maxRecDepth 100000 in
theorem vc_X8_isSmall_0 {kd : Nat → Nat} {K : zK} {X : zX} (hX : ∀ (n pc : Nat) (ls : zLS) (st : List zV) (M : zM), zrun (tb_X8_isSmall kd K) [] n X pc ls st M → X pc ls st M) {c : Int32} {M : zM}  (h : ∀ v1 : Int32, (v1 = zp ((97 : Int64).toInt ≤ c.toInt64.toInt ∧ c.toInt64.toInt ≤ (122 : Int64).toInt)) → (v1 = 0 ∨ v1 = 1) ∧ K (some (zI (v1))) M) : X 0 [some (zI (c))] [] M := hX 7 0 _ [] M (show ∀ v1 : Int32, (v1 = zp ((97 : Int64).toInt ≤ c.toInt64.toInt ∧ c.toInt64.toInt ≤ (122 : Int64).toInt)) → (v1 = 0 ∨ v1 = 1) ∧ K (some (zI (v1))) M from fun v1 => have h := h v1; fun q => have h := h q; ⟨h.1, have h := h.2; h⟩)
def sp_X8_isFigure : zSpec := fun kd as M K => match as with
  | [.inl c] => ∀ v : Int32, (v = zp (isFg c.toInt = true)) → K (some (.inl v)) M
  | _ => False
theorem dd_X8_isFigure_0 : decode cX8_isFigure 0 = .ok (.iload_n 0, 1) := by decide +kernel
theorem dd_X8_isFigure_1 : decode cX8_isFigure 1 = .ok (.i2l, 1) := by decide +kernel
theorem dd_X8_isFigure_2 : decode cX8_isFigure 2 = .ok (.ldc2_w 252, 3) := by decide +kernel
theorem dd_X8_isFigure_5 : decode cX8_isFigure 5 = .ok (.ldc2_w 254, 3) := by decide +kernel
theorem dd_X8_isFigure_8 : decode cX8_isFigure 8 = .ok (.invokestatic 54, 3) := by decide +kernel
theorem dd_X8_isFigure_11 : decode cX8_isFigure 11 = .ok (.ireturn, 1) := by decide +kernel
def tb_X8_isFigure (kd : Nat → Nat) (K : zK) : zTab := [(0, zt_iload 0 1), (1, zt_un (fun x => zL x.toInt64) 2), (2, zt_const (zL 48) 5), (5, zt_const (zL 57) 8), (8, zt_call kd sp_X8_in 3 11), (11, zt_zret K)]
set_option maxRecDepth 20000 in
theorem tk_X8_isFigure (d : Nat) (h_X8_in : zMS 1 yX8_in cX8_in 6 (some .boolean) sp_X8_in) : zTrue RX8 cX8_isFigure 1 (some .boolean) (d + 2) (fun kd K => tb_X8_isFigure kd K) := by
  intro p l e R s m args below meth c D cy A ad bl Qm K C0 hr hlocks hQ
  obtain ⟨hx, hb, hml, hown, hts, hK, hD, hA0, hN, hE, ⟨hR1, hR2⟩, hc1, hc2⟩ := id C0
  unfold tb_X8_isFigure
  refine List.forall_mem_cons.mpr ⟨ok_iload_n hx hb rfl dd_X8_isFigure_0, ?_⟩
  refine List.forall_mem_cons.mpr ⟨ok_i2l hx hb dd_X8_isFigure_1, ?_⟩
  refine List.forall_mem_cons.mpr ⟨ok_ldc2 hx hb hown (hts _ wd_1181) dd_X8_isFigure_2, ?_⟩
  refine List.forall_mem_cons.mpr ⟨ok_ldc2 hx hb hown (hts _ wd_1182) dd_X8_isFigure_5, ?_⟩
  refine List.forall_mem_cons.mpr ⟨ok_callS (n := 3) C0 (h_X8_in (d + 1) (by omega)) (by decide) wd_928 wd_926 wd_927 wd_107 ⟨by decide +kernel, by decide +kernel, by decide +kernel⟩ dd_X8_isFigure_8, ?_⟩
  refine List.forall_mem_cons.mpr ⟨ok_zret hx hb hr hlocks hQ dd_X8_isFigure_11, ?_⟩
  exact fun _ h => absurd h List.not_mem_nil
set_option maxRecDepth 100000 in
theorem vc_X8_isFigure_0 {kd : Nat → Nat} {K : zK} {X : zX} (hX : ∀ (n pc : Nat) (ls : zLS) (st : List zV) (M : zM), zrun (tb_X8_isFigure kd K) [] n X pc ls st M → X pc ls st M) {c : Int32} {M : zM}  (h : ∀ v1 : Int32, (v1 = zp ((48 : Int64).toInt ≤ c.toInt64.toInt ∧ c.toInt64.toInt ≤ (57 : Int64).toInt)) → (v1 = 0 ∨ v1 = 1) ∧ K (some (zI (v1))) M) : X 0 [some (zI (c))] [] M := hX 7 0 _ [] M (show ∀ v1 : Int32, (v1 = zp ((48 : Int64).toInt ≤ c.toInt64.toInt ∧ c.toInt64.toInt ≤ (57 : Int64).toInt)) → (v1 = 0 ∨ v1 = 1) ∧ K (some (zI (v1))) M from fun v1 => have h := h v1; fun q => have h := h q; ⟨h.1, have h := h.2; h⟩)
def sp_X8_at : zSpec := fun kd as M K => match as with
  | [.inl c, .inl i, .inl w] => ((0 ≤ c.toInt ∧ c.toInt < 1000) ∧ (0 ≤ i.toInt ∧ i.toInt < 1000) ∧ 0 ≤ w.toInt ∧ w.toInt < 1000) ∧ ∀ v : Int32, (v.toInt = 6 + 20 * c.toInt + 5 * i.toInt + w.toInt) → K (some (.inl v)) M
  | _ => False
theorem dd_X8_at_0 : decode cX8_at 0 = .ok (.bipush 6, 2) := by decide +kernel
theorem dd_X8_at_2 : decode cX8_at 2 = .ok (.bipush 20, 2) := by decide +kernel
theorem dd_X8_at_4 : decode cX8_at 4 = .ok (.iload_n 0, 1) := by decide +kernel
theorem dd_X8_at_5 : decode cX8_at 5 = .ok (.imul, 1) := by decide +kernel
theorem dd_X8_at_6 : decode cX8_at 6 = .ok (.iadd, 1) := by decide +kernel
theorem dd_X8_at_7 : decode cX8_at 7 = .ok (.iconst 5, 1) := by decide +kernel
theorem dd_X8_at_8 : decode cX8_at 8 = .ok (.iload_n 1, 1) := by decide +kernel
theorem dd_X8_at_9 : decode cX8_at 9 = .ok (.imul, 1) := by decide +kernel
theorem dd_X8_at_10 : decode cX8_at 10 = .ok (.iadd, 1) := by decide +kernel
theorem dd_X8_at_11 : decode cX8_at 11 = .ok (.iload_n 2, 1) := by decide +kernel
theorem dd_X8_at_12 : decode cX8_at 12 = .ok (.iadd, 1) := by decide +kernel
theorem dd_X8_at_13 : decode cX8_at 13 = .ok (.ireturn, 1) := by decide +kernel
def tb_X8_at (kd : Nat → Nat) (K : zK) : zTab := [(0, zt_const (zI 6) 2), (2, zt_const (zI 20) 4), (4, zt_iload 0 5), (5, zt_bin (fun x y => x * y) 6), (6, zt_bin (fun x y => x + y) 7), (7, zt_const (zI 5) 8), (8, zt_iload 1 9), (9, zt_bin (fun x y => x * y) 10), (10, zt_bin (fun x y => x + y) 11), (11, zt_iload 2 12), (12, zt_bin (fun x y => x + y) 13), (13, zt_iret K)]
set_option maxRecDepth 20000 in
theorem tk_X8_at (d : Nat)  : zTrue RX8 cX8_at 3 (some .int) (d + 1) (fun kd K => tb_X8_at kd K) := by
  intro p l e R s m args below meth c D cy A ad bl Qm K C0 hr hlocks hQ
  obtain ⟨hx, hb, hml, hown, hts, hK, hD, hA0, hN, hE, ⟨hR1, hR2⟩, hc1, hc2⟩ := id C0
  unfold tb_X8_at
  refine List.forall_mem_cons.mpr ⟨ok_bipush hx hb dd_X8_at_0 (by decide), ?_⟩
  refine List.forall_mem_cons.mpr ⟨ok_bipush hx hb dd_X8_at_2 (by decide), ?_⟩
  refine List.forall_mem_cons.mpr ⟨ok_iload_n hx hb rfl dd_X8_at_4, ?_⟩
  refine List.forall_mem_cons.mpr ⟨ok_imul hx hb dd_X8_at_5, ?_⟩
  refine List.forall_mem_cons.mpr ⟨ok_iadd hx hb dd_X8_at_6, ?_⟩
  refine List.forall_mem_cons.mpr ⟨ok_iconst hx hb dd_X8_at_7 (by decide), ?_⟩
  refine List.forall_mem_cons.mpr ⟨ok_iload_n hx hb rfl dd_X8_at_8, ?_⟩
  refine List.forall_mem_cons.mpr ⟨ok_imul hx hb dd_X8_at_9, ?_⟩
  refine List.forall_mem_cons.mpr ⟨ok_iadd hx hb dd_X8_at_10, ?_⟩
  refine List.forall_mem_cons.mpr ⟨ok_iload_n hx hb rfl dd_X8_at_11, ?_⟩
  refine List.forall_mem_cons.mpr ⟨ok_iadd hx hb dd_X8_at_12, ?_⟩
  refine List.forall_mem_cons.mpr ⟨ok_iret hx hb hr hlocks hQ dd_X8_at_13, ?_⟩
  exact fun _ h => absurd h List.not_mem_nil
set_option maxRecDepth 100000 in
theorem vc_X8_at_0 {kd : Nat → Nat} {K : zK} {X : zX} (hX : ∀ (n pc : Nat) (ls : zLS) (st : List zV) (M : zM), zrun (tb_X8_at kd K) [] n X pc ls st M → X pc ls st M) {c : Int32} {i : Int32} {w : Int32} {M : zM}  (h : K (some (zI ((((6 : Int32) + ((20 : Int32) * c)) + ((5 : Int32) * i)) + w))) M) : X 0 [some (zI (c)), some (zI (i)), some (zI (w))] [] M := hX 13 0 _ [] M (show K (some (zI ((((6 : Int32) + ((20 : Int32) * c)) + ((5 : Int32) * i)) + w))) M from h)
def sp_X8_no : zSpec := fun kd as M K => match as with
  | [.inr (.inr (.inl (9, 0)))] => (kd 9 = 8) ∧ ∀ v : Int32, (v.toInt = -3) → ∀ M' : zM, (M' = zmw M 9 4 (upd (M.1 9 4) 1 (M.1 9 4 1 + 1))) → K (some (.inl v)) M'
  | _ => False
theorem rv_X8_no : zrv sp_X8_no 8 0 := by
  intro kd as M K h
  unfold sp_X8_no at h
  split at h
  · exact ⟨_, _, rfl, h.1⟩
  · exact h.elim
theorem dd_X8_no_0 : decode cX8_no 0 = .ok (.aload_n 0, 1) := by decide +kernel
theorem dd_X8_no_1 : decode cX8_no 1 = .ok (.getfield 20, 3) := by decide +kernel
theorem dd_X8_no_4 : decode cX8_no 4 = .ok (.iconst 1, 1) := by decide +kernel
theorem dd_X8_no_5 : decode cX8_no 5 = .ok (.dup2, 1) := by decide +kernel
theorem dd_X8_no_6 : decode cX8_no 6 = .ok (.iaload, 1) := by decide +kernel
theorem dd_X8_no_7 : decode cX8_no 7 = .ok (.iconst 1, 1) := by decide +kernel
theorem dd_X8_no_8 : decode cX8_no 8 = .ok (.iadd, 1) := by decide +kernel
theorem dd_X8_no_9 : decode cX8_no 9 = .ok (.iastore, 1) := by decide +kernel
theorem dd_X8_no_10 : decode cX8_no 10 = .ok (.bipush (-3), 2) := by decide +kernel
theorem dd_X8_no_12 : decode cX8_no 12 = .ok (.ireturn, 1) := by decide +kernel
def tb_X8_no (kd : Nat → Nat) (K : zK) : zTab := [(0, zt_aload 0 1), (1, zt_getR kd 8 0 4 4), (4, zt_const (zI 1) 5), (5, zt_dup2 6), (6, zt_ald kd 0 7), (7, zt_const (zI 1) 8), (8, zt_bin (fun x y => x + y) 9), (9, zt_ast kd 0 10), (10, zt_const (zI (-3)) 12), (12, zt_iret K)]
set_option maxRecDepth 20000 in
theorem tk_X8_no (d : Nat)  : zTrue RX8 cX8_no 1 (some .int) (d + 1) (fun kd K => tb_X8_no kd K) := by
  intro p l e R s m args below meth c D cy A ad bl Qm K C0 hr hlocks hQ
  obtain ⟨hx, hb, hml, hown, hts, hK, hD, hA0, hN, hE, ⟨hR1, hR2⟩, hc1, hc2⟩ := id C0
  unfold tb_X8_no
  refine List.forall_mem_cons.mpr ⟨ok_aload_n hx hb rfl dd_X8_no_0, ?_⟩
  refine List.forall_mem_cons.mpr ⟨ok_getR (j := 3) hx hb hts zi_X8 hown hK zc_X8 (by decide) rfl (fun t fl h => by cases h; rfl) (hts _ wd_843) dd_X8_no_1, ?_⟩
  refine List.forall_mem_cons.mpr ⟨ok_iconst hx hb dd_X8_no_4 (by decide), ?_⟩
  refine List.forall_mem_cons.mpr ⟨ok_dup2 hx hb dd_X8_no_5, ?_⟩
  refine List.forall_mem_cons.mpr ⟨ok_ald (ty := 0) rfl hx hb hK (Or.inl ⟨rfl, rfl, dd_X8_no_6⟩), ?_⟩
  refine List.forall_mem_cons.mpr ⟨ok_iconst hx hb dd_X8_no_7 (by decide), ?_⟩
  refine List.forall_mem_cons.mpr ⟨ok_iadd hx hb dd_X8_no_8, ?_⟩
  refine List.forall_mem_cons.mpr ⟨ok_ast (ty := 0) rfl hx hb hK hD (Or.inl ⟨rfl, rfl, dd_X8_no_9⟩), ?_⟩
  refine List.forall_mem_cons.mpr ⟨ok_bipush hx hb dd_X8_no_10 (by decide), ?_⟩
  refine List.forall_mem_cons.mpr ⟨ok_iret hx hb hr hlocks hQ dd_X8_no_12, ?_⟩
  exact fun _ h => absurd h List.not_mem_nil
set_option maxRecDepth 100000 in
theorem vc_X8_no_0 {kd : Nat → Nat} {K : zK} {X : zX} (hX : ∀ (n pc : Nat) (ls : zLS) (st : List zV) (M : zM), zrun (tb_X8_no kd K) [] n X pc ls st M → X pc ls st M)  {M : zM} (hk0 : kd 9 = 8) (h : (zin (kd 9) 4 0 (1 : Int32)) ∧ (zin (kd 9) 4 0 (1 : Int32)) ∧ ∀ M1 : zM, (M1 = zmw M 9 4 (upd (M.1 9 4) ((1 : Int32)).toNatClampNeg ((M.1 9 4 ((1 : Int32)).toNatClampNeg) + (1 : Int32)))) → K (some (zI ((-3 : Int32)))) M1) : X 0 [some (zR 9 0)] [] M := hX 11 0 _ [] M (show (kd 9 = 8) ∧ (zin (kd 9) 4 0 (1 : Int32)) ∧ (zin (kd 9) 4 0 (1 : Int32)) ∧ ∀ M1 : zM, (M1 = zmw M 9 4 (upd (M.1 9 4) ((1 : Int32)).toNatClampNeg ((M.1 9 4 ((1 : Int32)).toNatClampNeg) + (1 : Int32)))) → K (some (zI ((-3 : Int32)))) M1 from ⟨hk0, ⟨h.1, have h := h.2; ⟨h.1, have h := h.2; fun M1 => have h := h M1; fun q => have h := h q; h⟩⟩⟩)
def sp_X8_full : zSpec := fun kd as M K => match as with
  | [.inr (.inr (.inl (9, 0)))] => (kd 9 = 8) ∧ ∀ v : Int32, (v.toInt = -4) → ∀ M' : zM, (M' = zmw M 9 4 (upd (M.1 9 4) 2 (M.1 9 4 2 + 1))) → K (some (.inl v)) M'
  | _ => False
theorem rv_X8_full : zrv sp_X8_full 8 0 := by
  intro kd as M K h
  unfold sp_X8_full at h
  split at h
  · exact ⟨_, _, rfl, h.1⟩
  · exact h.elim
theorem dd_X8_full_0 : decode cX8_full 0 = .ok (.aload_n 0, 1) := by decide +kernel
theorem dd_X8_full_1 : decode cX8_full 1 = .ok (.getfield 20, 3) := by decide +kernel
theorem dd_X8_full_4 : decode cX8_full 4 = .ok (.iconst 2, 1) := by decide +kernel
theorem dd_X8_full_5 : decode cX8_full 5 = .ok (.dup2, 1) := by decide +kernel
theorem dd_X8_full_6 : decode cX8_full 6 = .ok (.iaload, 1) := by decide +kernel
theorem dd_X8_full_7 : decode cX8_full 7 = .ok (.iconst 1, 1) := by decide +kernel
theorem dd_X8_full_8 : decode cX8_full 8 = .ok (.iadd, 1) := by decide +kernel
theorem dd_X8_full_9 : decode cX8_full 9 = .ok (.iastore, 1) := by decide +kernel
theorem dd_X8_full_10 : decode cX8_full 10 = .ok (.bipush (-4), 2) := by decide +kernel
theorem dd_X8_full_12 : decode cX8_full 12 = .ok (.ireturn, 1) := by decide +kernel
def tb_X8_full (kd : Nat → Nat) (K : zK) : zTab := [(0, zt_aload 0 1), (1, zt_getR kd 8 0 4 4), (4, zt_const (zI 2) 5), (5, zt_dup2 6), (6, zt_ald kd 0 7), (7, zt_const (zI 1) 8), (8, zt_bin (fun x y => x + y) 9), (9, zt_ast kd 0 10), (10, zt_const (zI (-4)) 12), (12, zt_iret K)]
set_option maxRecDepth 20000 in
theorem tk_X8_full (d : Nat)  : zTrue RX8 cX8_full 1 (some .int) (d + 1) (fun kd K => tb_X8_full kd K) := by
  intro p l e R s m args below meth c D cy A ad bl Qm K C0 hr hlocks hQ
  obtain ⟨hx, hb, hml, hown, hts, hK, hD, hA0, hN, hE, ⟨hR1, hR2⟩, hc1, hc2⟩ := id C0
  unfold tb_X8_full
  refine List.forall_mem_cons.mpr ⟨ok_aload_n hx hb rfl dd_X8_full_0, ?_⟩
  refine List.forall_mem_cons.mpr ⟨ok_getR (j := 3) hx hb hts zi_X8 hown hK zc_X8 (by decide) rfl (fun t fl h => by cases h; rfl) (hts _ wd_843) dd_X8_full_1, ?_⟩
  refine List.forall_mem_cons.mpr ⟨ok_iconst hx hb dd_X8_full_4 (by decide), ?_⟩
  refine List.forall_mem_cons.mpr ⟨ok_dup2 hx hb dd_X8_full_5, ?_⟩
  refine List.forall_mem_cons.mpr ⟨ok_ald (ty := 0) rfl hx hb hK (Or.inl ⟨rfl, rfl, dd_X8_full_6⟩), ?_⟩
  refine List.forall_mem_cons.mpr ⟨ok_iconst hx hb dd_X8_full_7 (by decide), ?_⟩
  refine List.forall_mem_cons.mpr ⟨ok_iadd hx hb dd_X8_full_8, ?_⟩
  refine List.forall_mem_cons.mpr ⟨ok_ast (ty := 0) rfl hx hb hK hD (Or.inl ⟨rfl, rfl, dd_X8_full_9⟩), ?_⟩
  refine List.forall_mem_cons.mpr ⟨ok_bipush hx hb dd_X8_full_10 (by decide), ?_⟩
  refine List.forall_mem_cons.mpr ⟨ok_iret hx hb hr hlocks hQ dd_X8_full_12, ?_⟩
  exact fun _ h => absurd h List.not_mem_nil
set_option maxRecDepth 100000 in
theorem vc_X8_full_0 {kd : Nat → Nat} {K : zK} {X : zX} (hX : ∀ (n pc : Nat) (ls : zLS) (st : List zV) (M : zM), zrun (tb_X8_full kd K) [] n X pc ls st M → X pc ls st M)  {M : zM} (hk0 : kd 9 = 8) (h : (zin (kd 9) 4 0 (2 : Int32)) ∧ (zin (kd 9) 4 0 (2 : Int32)) ∧ ∀ M1 : zM, (M1 = zmw M 9 4 (upd (M.1 9 4) ((2 : Int32)).toNatClampNeg ((M.1 9 4 ((2 : Int32)).toNatClampNeg) + (1 : Int32)))) → K (some (zI ((-4 : Int32)))) M1) : X 0 [some (zR 9 0)] [] M := hX 11 0 _ [] M (show (kd 9 = 8) ∧ (zin (kd 9) 4 0 (2 : Int32)) ∧ (zin (kd 9) 4 0 (2 : Int32)) ∧ ∀ M1 : zM, (M1 = zmw M 9 4 (upd (M.1 9 4) ((2 : Int32)).toNatClampNeg ((M.1 9 4 ((2 : Int32)).toNatClampNeg) + (1 : Int32)))) → K (some (zI ((-4 : Int32)))) M1 from ⟨hk0, ⟨h.1, have h := h.2; ⟨h.1, have h := h.2; fun M1 => have h := h M1; fun q => have h := h q; h⟩⟩⟩)
def sp_X8_bad : zSpec := fun kd as M K => match as with
  | [.inr (.inr (.inl (9, 0))), .inl w] => (kd 9 = 8) ∧ ∀ v : Int32, (v = w) → ∀ M' : zM, (M' = zmw M 9 4 (upd (M.1 9 4) 0 (M.1 9 4 0 + 1))) → K (some (.inl v)) M'
  | _ => False
theorem rv_X8_bad : zrv sp_X8_bad 8 1 := by
  intro kd as M K h
  unfold sp_X8_bad at h
  split at h
  · exact ⟨_, _, rfl, h.1⟩
  · exact h.elim
theorem dd_X8_bad_0 : decode cX8_bad 0 = .ok (.aload_n 0, 1) := by decide +kernel
theorem dd_X8_bad_1 : decode cX8_bad 1 = .ok (.getfield 20, 3) := by decide +kernel
theorem dd_X8_bad_4 : decode cX8_bad 4 = .ok (.iconst 0, 1) := by decide +kernel
theorem dd_X8_bad_5 : decode cX8_bad 5 = .ok (.dup2, 1) := by decide +kernel
theorem dd_X8_bad_6 : decode cX8_bad 6 = .ok (.iaload, 1) := by decide +kernel
theorem dd_X8_bad_7 : decode cX8_bad 7 = .ok (.iconst 1, 1) := by decide +kernel
theorem dd_X8_bad_8 : decode cX8_bad 8 = .ok (.iadd, 1) := by decide +kernel
theorem dd_X8_bad_9 : decode cX8_bad 9 = .ok (.iastore, 1) := by decide +kernel
theorem dd_X8_bad_10 : decode cX8_bad 10 = .ok (.iload_n 1, 1) := by decide +kernel
theorem dd_X8_bad_11 : decode cX8_bad 11 = .ok (.ireturn, 1) := by decide +kernel
def tb_X8_bad (kd : Nat → Nat) (K : zK) : zTab := [(0, zt_aload 0 1), (1, zt_getR kd 8 0 4 4), (4, zt_const (zI 0) 5), (5, zt_dup2 6), (6, zt_ald kd 0 7), (7, zt_const (zI 1) 8), (8, zt_bin (fun x y => x + y) 9), (9, zt_ast kd 0 10), (10, zt_iload 1 11), (11, zt_iret K)]
set_option maxRecDepth 20000 in
theorem tk_X8_bad (d : Nat)  : zTrue RX8 cX8_bad 2 (some .int) (d + 1) (fun kd K => tb_X8_bad kd K) := by
  intro p l e R s m args below meth c D cy A ad bl Qm K C0 hr hlocks hQ
  obtain ⟨hx, hb, hml, hown, hts, hK, hD, hA0, hN, hE, ⟨hR1, hR2⟩, hc1, hc2⟩ := id C0
  unfold tb_X8_bad
  refine List.forall_mem_cons.mpr ⟨ok_aload_n hx hb rfl dd_X8_bad_0, ?_⟩
  refine List.forall_mem_cons.mpr ⟨ok_getR (j := 3) hx hb hts zi_X8 hown hK zc_X8 (by decide) rfl (fun t fl h => by cases h; rfl) (hts _ wd_843) dd_X8_bad_1, ?_⟩
  refine List.forall_mem_cons.mpr ⟨ok_iconst hx hb dd_X8_bad_4 (by decide), ?_⟩
  refine List.forall_mem_cons.mpr ⟨ok_dup2 hx hb dd_X8_bad_5, ?_⟩
  refine List.forall_mem_cons.mpr ⟨ok_ald (ty := 0) rfl hx hb hK (Or.inl ⟨rfl, rfl, dd_X8_bad_6⟩), ?_⟩
  refine List.forall_mem_cons.mpr ⟨ok_iconst hx hb dd_X8_bad_7 (by decide), ?_⟩
  refine List.forall_mem_cons.mpr ⟨ok_iadd hx hb dd_X8_bad_8, ?_⟩
  refine List.forall_mem_cons.mpr ⟨ok_ast (ty := 0) rfl hx hb hK hD (Or.inl ⟨rfl, rfl, dd_X8_bad_9⟩), ?_⟩
  refine List.forall_mem_cons.mpr ⟨ok_iload_n hx hb rfl dd_X8_bad_10, ?_⟩
  refine List.forall_mem_cons.mpr ⟨ok_iret hx hb hr hlocks hQ dd_X8_bad_11, ?_⟩
  exact fun _ h => absurd h List.not_mem_nil
set_option maxRecDepth 100000 in
theorem vc_X8_bad_0 {kd : Nat → Nat} {K : zK} {X : zX} (hX : ∀ (n pc : Nat) (ls : zLS) (st : List zV) (M : zM), zrun (tb_X8_bad kd K) [] n X pc ls st M → X pc ls st M) {w : Int32} {M : zM} (hk0 : kd 9 = 8) (h : (zin (kd 9) 4 0 (0 : Int32)) ∧ (zin (kd 9) 4 0 (0 : Int32)) ∧ ∀ M1 : zM, (M1 = zmw M 9 4 (upd (M.1 9 4) ((0 : Int32)).toNatClampNeg ((M.1 9 4 ((0 : Int32)).toNatClampNeg) + (1 : Int32)))) → K (some (zI (w))) M1) : X 0 [some (zR 9 0), some (zI (w))] [] M := hX 11 0 _ [] M (show (kd 9 = 8) ∧ (zin (kd 9) 4 0 (0 : Int32)) ∧ (zin (kd 9) 4 0 (0 : Int32)) ∧ ∀ M1 : zM, (M1 = zmw M 9 4 (upd (M.1 9 4) ((0 : Int32)).toNatClampNeg ((M.1 9 4 ((0 : Int32)).toNatClampNeg) + (1 : Int32)))) → K (some (zI (w))) M1 from ⟨hk0, ⟨h.1, have h := h.2; ⟨h.1, have h := h.2; fun M1 => have h := h M1; fun q => have h := h q; h⟩⟩⟩)
def sp_X8_mayRub : zSpec := fun kd as M K => match as with
  | [.inr (.inr (.inl (t, o))), .inl c] => (kd t = 8) ∧ (o = 1 ∨ o = 5 ∨ o = 10) ∧ ∃ a : Sk, (RpF (M.1 t o) a) ∧ (isC c.toInt) ∧ ∀ v : Int32, (v = zp (sk_canR a c.toInt = true)) → K (some (.inl v)) M
  | _ => False
theorem dd_X8_mayRub_0 : decode cX8_mayRub 0 = .ok (.aload_n 0, 1) := by decide +kernel
theorem dd_X8_mayRub_1 : decode cX8_mayRub 1 = .ok (.iconst 0, 1) := by decide +kernel
theorem dd_X8_mayRub_2 : decode cX8_mayRub 2 = .ok (.iload_n 1, 1) := by decide +kernel
theorem dd_X8_mayRub_3 : decode cX8_mayRub 3 = .ok (.iadd, 1) := by decide +kernel
theorem dd_X8_mayRub_4 : decode cX8_mayRub 4 = .ok (.iaload, 1) := by decide +kernel
theorem dd_X8_mayRub_5 : decode cX8_mayRub 5 = .ok (.ifCond .le 25, 3) := by decide +kernel
theorem dd_X8_mayRub_8 : decode cX8_mayRub 8 = .ok (.aload_n 0, 1) := by decide +kernel
theorem dd_X8_mayRub_9 : decode cX8_mayRub 9 = .ok (.iload_n 1, 1) := by decide +kernel
theorem dd_X8_mayRub_10 : decode cX8_mayRub 10 = .ok (.aload_n 0, 1) := by decide +kernel
theorem dd_X8_mayRub_11 : decode cX8_mayRub 11 = .ok (.iconst 0, 1) := by decide +kernel
theorem dd_X8_mayRub_12 : decode cX8_mayRub 12 = .ok (.iload_n 1, 1) := by decide +kernel
theorem dd_X8_mayRub_13 : decode cX8_mayRub 13 = .ok (.iadd, 1) := by decide +kernel
theorem dd_X8_mayRub_14 : decode cX8_mayRub 14 = .ok (.iaload, 1) := by decide +kernel
theorem dd_X8_mayRub_15 : decode cX8_mayRub 15 = .ok (.iconst 1, 1) := by decide +kernel
theorem dd_X8_mayRub_16 : decode cX8_mayRub 16 = .ok (.isub, 1) := by decide +kernel
theorem dd_X8_mayRub_17 : decode cX8_mayRub 17 = .ok (.iconst 4, 1) := by decide +kernel
theorem dd_X8_mayRub_18 : decode cX8_mayRub 18 = .ok (.invokestatic 62, 3) := by decide +kernel
theorem dd_X8_mayRub_21 : decode cX8_mayRub 21 = .ok (.iaload, 1) := by decide +kernel
theorem dd_X8_mayRub_22 : decode cX8_mayRub 22 = .ok (.iconst (-1), 1) := by decide +kernel
theorem dd_X8_mayRub_23 : decode cX8_mayRub 23 = .ok (.if_icmp .ne 7, 3) := by decide +kernel
theorem dd_X8_mayRub_26 : decode cX8_mayRub 26 = .ok (.iconst 1, 1) := by decide +kernel
theorem dd_X8_mayRub_27 : decode cX8_mayRub 27 = .ok (.goto 4, 3) := by decide +kernel
theorem dd_X8_mayRub_30 : decode cX8_mayRub 30 = .ok (.iconst 0, 1) := by decide +kernel
theorem dd_X8_mayRub_31 : decode cX8_mayRub 31 = .ok (.ireturn, 1) := by decide +kernel
def tb_X8_mayRub (kd : Nat → Nat) (K : zK) : zTab := [(0, zt_aload 0 1), (1, zt_const (zI 0) 2), (2, zt_iload 1 3), (3, zt_bin (fun x y => x + y) 4), (4, zt_ald kd 0 5), (5, zt_if (fun x => x ≤ 0) (fun x => ¬ x ≤ 0) 30 8), (8, zt_aload 0 9), (9, zt_iload 1 10), (10, zt_aload 0 11), (11, zt_const (zI 0) 12), (12, zt_iload 1 13), (13, zt_bin (fun x y => x + y) 14), (14, zt_ald kd 0 15), (15, zt_const (zI 1) 16), (16, zt_bin (fun x y => x - y) 17), (17, zt_const (zI 4) 18), (18, zt_call kd sp_X8_at 3 21), (21, zt_ald kd 0 22), (22, zt_const (zI (-1)) 23), (23, zt_icmp (fun x y => ¬ x = y) (fun x y => x = y) 30 26), (26, zt_const (zI 1) 27), (27, zt_goto 31), (30, zt_const (zI 0) 31), (31, zt_zret K)]
set_option maxRecDepth 20000 in
theorem tk_X8_mayRub (d : Nat) (h_X8_at : zMS 1 yX8_at cX8_at 3 (some .int) sp_X8_at) : zTrue RX8 cX8_mayRub 2 (some .boolean) (d + 2) (fun kd K => tb_X8_mayRub kd K) := by
  intro p l e R s m args below meth c D cy A ad bl Qm K C0 hr hlocks hQ
  obtain ⟨hx, hb, hml, hown, hts, hK, hD, hA0, hN, hE, ⟨hR1, hR2⟩, hc1, hc2⟩ := id C0
  unfold tb_X8_mayRub
  refine List.forall_mem_cons.mpr ⟨ok_aload_n hx hb rfl dd_X8_mayRub_0, ?_⟩
  refine List.forall_mem_cons.mpr ⟨ok_iconst hx hb dd_X8_mayRub_1 (by decide), ?_⟩
  refine List.forall_mem_cons.mpr ⟨ok_iload_n hx hb rfl dd_X8_mayRub_2, ?_⟩
  refine List.forall_mem_cons.mpr ⟨ok_iadd hx hb dd_X8_mayRub_3, ?_⟩
  refine List.forall_mem_cons.mpr ⟨ok_ald (ty := 0) rfl hx hb hK (Or.inl ⟨rfl, rfl, dd_X8_mayRub_4⟩), ?_⟩
  refine List.forall_mem_cons.mpr ⟨ok_if_le hx hb dd_X8_mayRub_5 (by decide), ?_⟩
  refine List.forall_mem_cons.mpr ⟨ok_aload_n hx hb rfl dd_X8_mayRub_8, ?_⟩
  refine List.forall_mem_cons.mpr ⟨ok_iload_n hx hb rfl dd_X8_mayRub_9, ?_⟩
  refine List.forall_mem_cons.mpr ⟨ok_aload_n hx hb rfl dd_X8_mayRub_10, ?_⟩
  refine List.forall_mem_cons.mpr ⟨ok_iconst hx hb dd_X8_mayRub_11 (by decide), ?_⟩
  refine List.forall_mem_cons.mpr ⟨ok_iload_n hx hb rfl dd_X8_mayRub_12, ?_⟩
  refine List.forall_mem_cons.mpr ⟨ok_iadd hx hb dd_X8_mayRub_13, ?_⟩
  refine List.forall_mem_cons.mpr ⟨ok_ald (ty := 0) rfl hx hb hK (Or.inl ⟨rfl, rfl, dd_X8_mayRub_14⟩), ?_⟩
  refine List.forall_mem_cons.mpr ⟨ok_iconst hx hb dd_X8_mayRub_15 (by decide), ?_⟩
  refine List.forall_mem_cons.mpr ⟨ok_isub hx hb dd_X8_mayRub_16, ?_⟩
  refine List.forall_mem_cons.mpr ⟨ok_iconst hx hb dd_X8_mayRub_17 (by decide), ?_⟩
  refine List.forall_mem_cons.mpr ⟨ok_callS (n := 3) C0 (h_X8_at (d + 1) (by omega)) (by decide) wd_942 wd_940 wd_941 wd_107 ⟨by decide +kernel, by decide +kernel, by decide +kernel⟩ dd_X8_mayRub_18, ?_⟩
  refine List.forall_mem_cons.mpr ⟨ok_ald (ty := 0) rfl hx hb hK (Or.inl ⟨rfl, rfl, dd_X8_mayRub_21⟩), ?_⟩
  refine List.forall_mem_cons.mpr ⟨ok_iconst hx hb dd_X8_mayRub_22 (by decide), ?_⟩
  refine List.forall_mem_cons.mpr ⟨ok_icmp_ne hx hb dd_X8_mayRub_23 (by decide), ?_⟩
  refine List.forall_mem_cons.mpr ⟨ok_iconst hx hb dd_X8_mayRub_26 (by decide), ?_⟩
  refine List.forall_mem_cons.mpr ⟨ok_goto hx hb dd_X8_mayRub_27 (by decide), ?_⟩
  refine List.forall_mem_cons.mpr ⟨ok_iconst hx hb dd_X8_mayRub_30 (by decide), ?_⟩
  refine List.forall_mem_cons.mpr ⟨ok_zret hx hb hr hlocks hQ dd_X8_mayRub_31, ?_⟩
  exact fun _ h => absurd h List.not_mem_nil
set_option maxRecDepth 100000 in
theorem vc_X8_mayRub_0 {kd : Nat → Nat} {K : zK} {X : zX} (hX : ∀ (n pc : Nat) (ls : zLS) (st : List zV) (M : zM), zrun (tb_X8_mayRub kd K) [] n X pc ls st M → X pc ls st M) {t o : Nat} {c : Int32} {M : zM}  (h : (zin (kd t) o 0 ((0 : Int32) + c)) ∧ (((M.1 t o ((0 : Int32) + c).toNatClampNeg) ≤ 0) → K (some (zI ((0 : Int32)))) M) ∧ ((¬ (M.1 t o ((0 : Int32) + c).toNatClampNeg) ≤ 0) → (zin (kd t) o 0 ((0 : Int32) + c)) ∧ ((0 ≤ c.toInt ∧ c.toInt < 1000) ∧ (0 ≤ ((M.1 t o ((0 : Int32) + c).toNatClampNeg) - (1 : Int32)).toInt ∧ ((M.1 t o ((0 : Int32) + c).toNatClampNeg) - (1 : Int32)).toInt < 1000) ∧ 0 ≤ (4 : Int32).toInt ∧ (4 : Int32).toInt < 1000) ∧ ∀ v1 : Int32, (v1.toInt = 6 + 20 * c.toInt + 5 * ((M.1 t o ((0 : Int32) + c).toNatClampNeg) - (1 : Int32)).toInt + (4 : Int32).toInt) → (zin (kd t) o 0 v1) ∧ ((¬ (M.1 t o (v1).toNatClampNeg) = (-1 : Int32)) → K (some (zI ((0 : Int32)))) M) ∧ (((M.1 t o (v1).toNatClampNeg) = (-1 : Int32)) → K (some (zI ((1 : Int32)))) M))) : X 0 [some (zR t o), some (zI (c))] [] M := hX 24 0 _ [] M (show (zin (kd t) o 0 ((0 : Int32) + c)) ∧ (((M.1 t o ((0 : Int32) + c).toNatClampNeg) ≤ 0) → ((0 : Int32) = 0 ∨ (0 : Int32) = 1) ∧ K (some (zI ((0 : Int32)))) M) ∧ ((¬ (M.1 t o ((0 : Int32) + c).toNatClampNeg) ≤ 0) → (zin (kd t) o 0 ((0 : Int32) + c)) ∧ ((0 ≤ c.toInt ∧ c.toInt < 1000) ∧ (0 ≤ ((M.1 t o ((0 : Int32) + c).toNatClampNeg) - (1 : Int32)).toInt ∧ ((M.1 t o ((0 : Int32) + c).toNatClampNeg) - (1 : Int32)).toInt < 1000) ∧ 0 ≤ (4 : Int32).toInt ∧ (4 : Int32).toInt < 1000) ∧ ∀ v1 : Int32, (v1.toInt = 6 + 20 * c.toInt + 5 * ((M.1 t o ((0 : Int32) + c).toNatClampNeg) - (1 : Int32)).toInt + (4 : Int32).toInt) → (zin (kd t) o 0 v1) ∧ ((¬ (M.1 t o (v1).toNatClampNeg) = (-1 : Int32)) → ((0 : Int32) = 0 ∨ (0 : Int32) = 1) ∧ K (some (zI ((0 : Int32)))) M) ∧ (((M.1 t o (v1).toNatClampNeg) = (-1 : Int32)) → ((1 : Int32) = 0 ∨ (1 : Int32) = 1) ∧ K (some (zI ((1 : Int32)))) M)) from ⟨h.1, have h := h.2; ⟨fun q => have h := h.1 q; ⟨(Or.inl rfl), h⟩, fun q => have h := h.2 q; ⟨h.1, have h := h.2; ⟨h.1, have h := h.2; fun v1 => have h := h v1; fun q => have h := h q; ⟨h.1, have h := h.2; ⟨fun q => have h := h.1 q; ⟨(Or.inl rfl), h⟩, fun q => have h := h.2 q; ⟨(Or.inr rfl), h⟩⟩⟩⟩⟩⟩⟩)
def sp_X8_mayWrite : zSpec := fun kd as M K => match as with
  | [.inr (.inr (.inl (t, o))), .inl c] => (kd t = 8) ∧ (o = 1 ∨ o = 5 ∨ o = 10) ∧ ∃ a : Sk, (RpF (M.1 t o) a) ∧ (isC c.toInt) ∧ ∀ v : Int32, (v = zp (sk_canW a c.toInt = true)) → K (some (.inl v)) M
  | _ => False
theorem dd_X8_mayWrite_0 : decode cX8_mayWrite 0 = .ok (.aload_n 0, 1) := by decide +kernel
theorem dd_X8_mayWrite_1 : decode cX8_mayWrite 1 = .ok (.iload_n 1, 1) := by decide +kernel
theorem dd_X8_mayWrite_2 : decode cX8_mayWrite 2 = .ok (.invokestatic 66, 3) := by decide +kernel
theorem dd_X8_mayWrite_5 : decode cX8_mayWrite 5 = .ok (.ifCond .ne 16, 3) := by decide +kernel
theorem dd_X8_mayWrite_8 : decode cX8_mayWrite 8 = .ok (.aload_n 0, 1) := by decide +kernel
theorem dd_X8_mayWrite_9 : decode cX8_mayWrite 9 = .ok (.iconst 0, 1) := by decide +kernel
theorem dd_X8_mayWrite_10 : decode cX8_mayWrite 10 = .ok (.iload_n 1, 1) := by decide +kernel
theorem dd_X8_mayWrite_11 : decode cX8_mayWrite 11 = .ok (.iadd, 1) := by decide +kernel
theorem dd_X8_mayWrite_12 : decode cX8_mayWrite 12 = .ok (.iaload, 1) := by decide +kernel
theorem dd_X8_mayWrite_13 : decode cX8_mayWrite 13 = .ok (.iconst 4, 1) := by decide +kernel
theorem dd_X8_mayWrite_14 : decode cX8_mayWrite 14 = .ok (.if_icmp .ge 7, 3) := by decide +kernel
theorem dd_X8_mayWrite_17 : decode cX8_mayWrite 17 = .ok (.iconst 1, 1) := by decide +kernel
theorem dd_X8_mayWrite_18 : decode cX8_mayWrite 18 = .ok (.goto 4, 3) := by decide +kernel
theorem dd_X8_mayWrite_21 : decode cX8_mayWrite 21 = .ok (.iconst 0, 1) := by decide +kernel
theorem dd_X8_mayWrite_22 : decode cX8_mayWrite 22 = .ok (.ireturn, 1) := by decide +kernel
def tb_X8_mayWrite (kd : Nat → Nat) (K : zK) : zTab := [(0, zt_aload 0 1), (1, zt_iload 1 2), (2, zt_call kd sp_X8_mayRub 2 5), (5, zt_if (fun x => ¬ x = 0) (fun x => x = 0) 21 8), (8, zt_aload 0 9), (9, zt_const (zI 0) 10), (10, zt_iload 1 11), (11, zt_bin (fun x y => x + y) 12), (12, zt_ald kd 0 13), (13, zt_const (zI 4) 14), (14, zt_icmp (fun x y => y ≤ x) (fun x y => ¬ y ≤ x) 21 17), (17, zt_const (zI 1) 18), (18, zt_goto 22), (21, zt_const (zI 0) 22), (22, zt_zret K)]
set_option maxRecDepth 20000 in
theorem tk_X8_mayWrite (d : Nat) (h_X8_mayRub : zMS 2 yX8_mayRub cX8_mayRub 2 (some .boolean) sp_X8_mayRub) : zTrue RX8 cX8_mayWrite 2 (some .boolean) (d + 3) (fun kd K => tb_X8_mayWrite kd K) := by
  intro p l e R s m args below meth c D cy A ad bl Qm K C0 hr hlocks hQ
  obtain ⟨hx, hb, hml, hown, hts, hK, hD, hA0, hN, hE, ⟨hR1, hR2⟩, hc1, hc2⟩ := id C0
  unfold tb_X8_mayWrite
  refine List.forall_mem_cons.mpr ⟨ok_aload_n hx hb rfl dd_X8_mayWrite_0, ?_⟩
  refine List.forall_mem_cons.mpr ⟨ok_iload_n hx hb rfl dd_X8_mayWrite_1, ?_⟩
  refine List.forall_mem_cons.mpr ⟨ok_callS (n := 2) C0 (h_X8_mayRub (d + 2) (by omega)) (by decide) wd_939 wd_937 wd_938 wd_107 ⟨by decide +kernel, by decide +kernel, by decide +kernel⟩ dd_X8_mayWrite_2, ?_⟩
  refine List.forall_mem_cons.mpr ⟨ok_if_ne hx hb dd_X8_mayWrite_5 (by decide), ?_⟩
  refine List.forall_mem_cons.mpr ⟨ok_aload_n hx hb rfl dd_X8_mayWrite_8, ?_⟩
  refine List.forall_mem_cons.mpr ⟨ok_iconst hx hb dd_X8_mayWrite_9 (by decide), ?_⟩
  refine List.forall_mem_cons.mpr ⟨ok_iload_n hx hb rfl dd_X8_mayWrite_10, ?_⟩
  refine List.forall_mem_cons.mpr ⟨ok_iadd hx hb dd_X8_mayWrite_11, ?_⟩
  refine List.forall_mem_cons.mpr ⟨ok_ald (ty := 0) rfl hx hb hK (Or.inl ⟨rfl, rfl, dd_X8_mayWrite_12⟩), ?_⟩
  refine List.forall_mem_cons.mpr ⟨ok_iconst hx hb dd_X8_mayWrite_13 (by decide), ?_⟩
  refine List.forall_mem_cons.mpr ⟨ok_icmp_ge hx hb dd_X8_mayWrite_14 (by decide), ?_⟩
  refine List.forall_mem_cons.mpr ⟨ok_iconst hx hb dd_X8_mayWrite_17 (by decide), ?_⟩
  refine List.forall_mem_cons.mpr ⟨ok_goto hx hb dd_X8_mayWrite_18 (by decide), ?_⟩
  refine List.forall_mem_cons.mpr ⟨ok_iconst hx hb dd_X8_mayWrite_21 (by decide), ?_⟩
  refine List.forall_mem_cons.mpr ⟨ok_zret hx hb hr hlocks hQ dd_X8_mayWrite_22, ?_⟩
  exact fun _ h => absurd h List.not_mem_nil
set_option maxRecDepth 100000 in
theorem vc_X8_mayWrite_0 {kd : Nat → Nat} {K : zK} {X : zX} (hX : ∀ (n pc : Nat) (ls : zLS) (st : List zV) (M : zM), zrun (tb_X8_mayWrite kd K) [] n X pc ls st M → X pc ls st M) {t o : Nat} {c : Int32} {M : zM} (hk0 : kd t = 8) (h : (o = 1 ∨ o = 5 ∨ o = 10) ∧ ∃ a1 : Sk, (RpF (M.1 t o) a1) ∧ (isC c.toInt) ∧ ∀ v1 : Int32, (v1 = zp (sk_canR a1 c.toInt = true)) → ((¬ v1 = 0) → K (some (zI ((0 : Int32)))) M) ∧ ((v1 = 0) → (zin (kd t) o 0 ((0 : Int32) + c)) ∧ (((4 : Int32) ≤ (M.1 t o ((0 : Int32) + c).toNatClampNeg)) → K (some (zI ((0 : Int32)))) M) ∧ ((¬ (4 : Int32) ≤ (M.1 t o ((0 : Int32) + c).toNatClampNeg)) → K (some (zI ((1 : Int32)))) M))) : X 0 [some (zR t o), some (zI (c))] [] M := hX 15 0 _ [] M (show (kd t = 8) ∧ (o = 1 ∨ o = 5 ∨ o = 10) ∧ ∃ a1 : Sk, (RpF (M.1 t o) a1) ∧ (isC c.toInt) ∧ ∀ v1 : Int32, (v1 = zp (sk_canR a1 c.toInt = true)) → ((¬ v1 = 0) → ((0 : Int32) = 0 ∨ (0 : Int32) = 1) ∧ K (some (zI ((0 : Int32)))) M) ∧ ((v1 = 0) → (zin (kd t) o 0 ((0 : Int32) + c)) ∧ (((4 : Int32) ≤ (M.1 t o ((0 : Int32) + c).toNatClampNeg)) → ((0 : Int32) = 0 ∨ (0 : Int32) = 1) ∧ K (some (zI ((0 : Int32)))) M) ∧ ((¬ (4 : Int32) ≤ (M.1 t o ((0 : Int32) + c).toNatClampNeg)) → ((1 : Int32) = 0 ∨ (1 : Int32) = 1) ∧ K (some (zI ((1 : Int32)))) M)) from ⟨hk0, ⟨h.1, have h := h.2; h.elim (fun a1 h => ⟨a1, ⟨h.1, have h := h.2; ⟨h.1, have h := h.2; fun v1 => have h := h v1; fun q => have h := h q; ⟨fun q => have h := h.1 q; ⟨(Or.inl rfl), h⟩, fun q => have h := h.2 q; ⟨h.1, have h := h.2; ⟨fun q => have h := h.1 q; ⟨(Or.inl rfl), h⟩, fun q => have h := h.2 q; ⟨(Or.inr rfl), h⟩⟩⟩⟩⟩⟩⟩)⟩⟩)
def sp_X8_goRub : zSpec := fun kd as M K => match as with
  | [.inr (.inr (.inl (t, o))), .inl c] => (kd t = 8) ∧ (o = 1 ∨ o = 5 ∨ o = 10) ∧ ∃ a : Sk, (RpF (M.1 t o) a) ∧ ∃ l : Ly, (sk_top a c.toInt = some l) ∧ ∀ v : Int32, (v.toInt = a.2 - l.2.2.2.1) → ∀ f : Nat → Int32, (RpF f (sk_rub a c.toInt)) → (∀ j9, 127 ≤ j9 → f j9 = M.1 t o j9) → ∀ M' : zM, (M' = zmw M t o f) → K (some (.inl v)) M'
  | _ => False
theorem dd_X8_goRub_0 : decode cX8_goRub 0 = .ok (.aload_n 0, 1) := by decide +kernel
theorem dd_X8_goRub_1 : decode cX8_goRub 1 = .ok (.iconst 0, 1) := by decide +kernel
theorem dd_X8_goRub_2 : decode cX8_goRub 2 = .ok (.iload_n 1, 1) := by decide +kernel
theorem dd_X8_goRub_3 : decode cX8_goRub 3 = .ok (.iadd, 1) := by decide +kernel
theorem dd_X8_goRub_4 : decode cX8_goRub 4 = .ok (.iaload, 1) := by decide +kernel
theorem dd_X8_goRub_5 : decode cX8_goRub 5 = .ok (.iconst 1, 1) := by decide +kernel
theorem dd_X8_goRub_6 : decode cX8_goRub 6 = .ok (.isub, 1) := by decide +kernel
theorem dd_X8_goRub_7 : decode cX8_goRub 7 = .ok (.istore_n 2, 1) := by decide +kernel
theorem dd_X8_goRub_8 : decode cX8_goRub 8 = .ok (.aload_n 0, 1) := by decide +kernel
theorem dd_X8_goRub_9 : decode cX8_goRub 9 = .ok (.iload_n 1, 1) := by decide +kernel
theorem dd_X8_goRub_10 : decode cX8_goRub 10 = .ok (.iload_n 2, 1) := by decide +kernel
theorem dd_X8_goRub_11 : decode cX8_goRub 11 = .ok (.iconst 4, 1) := by decide +kernel
theorem dd_X8_goRub_12 : decode cX8_goRub 12 = .ok (.invokestatic 62, 3) := by decide +kernel
theorem dd_X8_goRub_15 : decode cX8_goRub 15 = .ok (.aload_n 0, 1) := by decide +kernel
theorem dd_X8_goRub_16 : decode cX8_goRub 16 = .ok (.bipush 126, 2) := by decide +kernel
theorem dd_X8_goRub_18 : decode cX8_goRub 18 = .ok (.iaload, 1) := by decide +kernel
theorem dd_X8_goRub_19 : decode cX8_goRub 19 = .ok (.iastore, 1) := by decide +kernel
theorem dd_X8_goRub_20 : decode cX8_goRub 20 = .ok (.aload_n 0, 1) := by decide +kernel
theorem dd_X8_goRub_21 : decode cX8_goRub 21 = .ok (.bipush 126, 2) := by decide +kernel
theorem dd_X8_goRub_23 : decode cX8_goRub 23 = .ok (.iaload, 1) := by decide +kernel
theorem dd_X8_goRub_24 : decode cX8_goRub 24 = .ok (.aload_n 0, 1) := by decide +kernel
theorem dd_X8_goRub_25 : decode cX8_goRub 25 = .ok (.iload_n 1, 1) := by decide +kernel
theorem dd_X8_goRub_26 : decode cX8_goRub 26 = .ok (.iload_n 2, 1) := by decide +kernel
theorem dd_X8_goRub_27 : decode cX8_goRub 27 = .ok (.iconst 3, 1) := by decide +kernel
theorem dd_X8_goRub_28 : decode cX8_goRub 28 = .ok (.invokestatic 62, 3) := by decide +kernel
theorem dd_X8_goRub_31 : decode cX8_goRub 31 = .ok (.iaload, 1) := by decide +kernel
theorem dd_X8_goRub_32 : decode cX8_goRub 32 = .ok (.isub, 1) := by decide +kernel
theorem dd_X8_goRub_33 : decode cX8_goRub 33 = .ok (.ireturn, 1) := by decide +kernel
def tb_X8_goRub (kd : Nat → Nat) (K : zK) : zTab := [(0, zt_aload 0 1), (1, zt_const (zI 0) 2), (2, zt_iload 1 3), (3, zt_bin (fun x y => x + y) 4), (4, zt_ald kd 0 5), (5, zt_const (zI 1) 6), (6, zt_bin (fun x y => x - y) 7), (7, zt_istore 2 8), (8, zt_aload 0 9), (9, zt_iload 1 10), (10, zt_iload 2 11), (11, zt_const (zI 4) 12), (12, zt_call kd sp_X8_at 3 15), (15, zt_aload 0 16), (16, zt_const (zI 126) 18), (18, zt_ald kd 0 19), (19, zt_ast kd 0 20), (20, zt_aload 0 21), (21, zt_const (zI 126) 23), (23, zt_ald kd 0 24), (24, zt_aload 0 25), (25, zt_iload 1 26), (26, zt_iload 2 27), (27, zt_const (zI 3) 28), (28, zt_call kd sp_X8_at 3 31), (31, zt_ald kd 0 32), (32, zt_bin (fun x y => x - y) 33), (33, zt_iret K)]
set_option maxRecDepth 20000 in
theorem tk_X8_goRub (d : Nat) (h_X8_at : zMS 1 yX8_at cX8_at 3 (some .int) sp_X8_at) : zTrue RX8 cX8_goRub 3 (some .int) (d + 2) (fun kd K => tb_X8_goRub kd K) := by
  intro p l e R s m args below meth c D cy A ad bl Qm K C0 hr hlocks hQ
  obtain ⟨hx, hb, hml, hown, hts, hK, hD, hA0, hN, hE, ⟨hR1, hR2⟩, hc1, hc2⟩ := id C0
  unfold tb_X8_goRub
  refine List.forall_mem_cons.mpr ⟨ok_aload_n hx hb rfl dd_X8_goRub_0, ?_⟩
  refine List.forall_mem_cons.mpr ⟨ok_iconst hx hb dd_X8_goRub_1 (by decide), ?_⟩
  refine List.forall_mem_cons.mpr ⟨ok_iload_n hx hb rfl dd_X8_goRub_2, ?_⟩
  refine List.forall_mem_cons.mpr ⟨ok_iadd hx hb dd_X8_goRub_3, ?_⟩
  refine List.forall_mem_cons.mpr ⟨ok_ald (ty := 0) rfl hx hb hK (Or.inl ⟨rfl, rfl, dd_X8_goRub_4⟩), ?_⟩
  refine List.forall_mem_cons.mpr ⟨ok_iconst hx hb dd_X8_goRub_5 (by decide), ?_⟩
  refine List.forall_mem_cons.mpr ⟨ok_isub hx hb dd_X8_goRub_6, ?_⟩
  refine List.forall_mem_cons.mpr ⟨ok_istore_n hx hb rfl dd_X8_goRub_7, ?_⟩
  refine List.forall_mem_cons.mpr ⟨ok_aload_n hx hb rfl dd_X8_goRub_8, ?_⟩
  refine List.forall_mem_cons.mpr ⟨ok_iload_n hx hb rfl dd_X8_goRub_9, ?_⟩
  refine List.forall_mem_cons.mpr ⟨ok_iload_n hx hb rfl dd_X8_goRub_10, ?_⟩
  refine List.forall_mem_cons.mpr ⟨ok_iconst hx hb dd_X8_goRub_11 (by decide), ?_⟩
  refine List.forall_mem_cons.mpr ⟨ok_callS (n := 3) C0 (h_X8_at (d + 1) (by omega)) (by decide) wd_942 wd_940 wd_941 wd_107 ⟨by decide +kernel, by decide +kernel, by decide +kernel⟩ dd_X8_goRub_12, ?_⟩
  refine List.forall_mem_cons.mpr ⟨ok_aload_n hx hb rfl dd_X8_goRub_15, ?_⟩
  refine List.forall_mem_cons.mpr ⟨ok_bipush hx hb dd_X8_goRub_16 (by decide), ?_⟩
  refine List.forall_mem_cons.mpr ⟨ok_ald (ty := 0) rfl hx hb hK (Or.inl ⟨rfl, rfl, dd_X8_goRub_18⟩), ?_⟩
  refine List.forall_mem_cons.mpr ⟨ok_ast (ty := 0) rfl hx hb hK hD (Or.inl ⟨rfl, rfl, dd_X8_goRub_19⟩), ?_⟩
  refine List.forall_mem_cons.mpr ⟨ok_aload_n hx hb rfl dd_X8_goRub_20, ?_⟩
  refine List.forall_mem_cons.mpr ⟨ok_bipush hx hb dd_X8_goRub_21 (by decide), ?_⟩
  refine List.forall_mem_cons.mpr ⟨ok_ald (ty := 0) rfl hx hb hK (Or.inl ⟨rfl, rfl, dd_X8_goRub_23⟩), ?_⟩
  refine List.forall_mem_cons.mpr ⟨ok_aload_n hx hb rfl dd_X8_goRub_24, ?_⟩
  refine List.forall_mem_cons.mpr ⟨ok_iload_n hx hb rfl dd_X8_goRub_25, ?_⟩
  refine List.forall_mem_cons.mpr ⟨ok_iload_n hx hb rfl dd_X8_goRub_26, ?_⟩
  refine List.forall_mem_cons.mpr ⟨ok_iconst hx hb dd_X8_goRub_27 (by decide), ?_⟩
  refine List.forall_mem_cons.mpr ⟨ok_callS (n := 3) C0 (h_X8_at (d + 1) (by omega)) (by decide) wd_942 wd_940 wd_941 wd_107 ⟨by decide +kernel, by decide +kernel, by decide +kernel⟩ dd_X8_goRub_28, ?_⟩
  refine List.forall_mem_cons.mpr ⟨ok_ald (ty := 0) rfl hx hb hK (Or.inl ⟨rfl, rfl, dd_X8_goRub_31⟩), ?_⟩
  refine List.forall_mem_cons.mpr ⟨ok_isub hx hb dd_X8_goRub_32, ?_⟩
  refine List.forall_mem_cons.mpr ⟨ok_iret hx hb hr hlocks hQ dd_X8_goRub_33, ?_⟩
  exact fun _ h => absurd h List.not_mem_nil
set_option maxRecDepth 100000 in
theorem vc_X8_goRub_0 {kd : Nat → Nat} {K : zK} {X : zX} (hX : ∀ (n pc : Nat) (ls : zLS) (st : List zV) (M : zM), zrun (tb_X8_goRub kd K) [] n X pc ls st M → X pc ls st M) {t o : Nat} {c : Int32} {M : zM}  (h : (zin (kd t) o 0 ((0 : Int32) + c)) ∧ ((0 ≤ c.toInt ∧ c.toInt < 1000) ∧ (0 ≤ ((M.1 t o ((0 : Int32) + c).toNatClampNeg) - (1 : Int32)).toInt ∧ ((M.1 t o ((0 : Int32) + c).toNatClampNeg) - (1 : Int32)).toInt < 1000) ∧ 0 ≤ (4 : Int32).toInt ∧ (4 : Int32).toInt < 1000) ∧ ∀ v1 : Int32, (v1.toInt = 6 + 20 * c.toInt + 5 * ((M.1 t o ((0 : Int32) + c).toNatClampNeg) - (1 : Int32)).toInt + (4 : Int32).toInt) → (zin (kd t) o 0 (126 : Int32)) ∧ (zin (kd t) o 0 v1) ∧ ∀ M2 : zM, (M2 = zmw M t o (upd (M.1 t o) (v1).toNatClampNeg (M.1 t o ((126 : Int32)).toNatClampNeg))) → (zin (kd t) o 0 (126 : Int32)) ∧ ((0 ≤ c.toInt ∧ c.toInt < 1000) ∧ (0 ≤ ((M.1 t o ((0 : Int32) + c).toNatClampNeg) - (1 : Int32)).toInt ∧ ((M.1 t o ((0 : Int32) + c).toNatClampNeg) - (1 : Int32)).toInt < 1000) ∧ 0 ≤ (3 : Int32).toInt ∧ (3 : Int32).toInt < 1000) ∧ ∀ v3 : Int32, (v3.toInt = 6 + 20 * c.toInt + 5 * ((M.1 t o ((0 : Int32) + c).toNatClampNeg) - (1 : Int32)).toInt + (3 : Int32).toInt) → (zin (kd t) o 0 v3) ∧ K (some (zI ((M2.1 t o ((126 : Int32)).toNatClampNeg) - (M2.1 t o (v3).toNatClampNeg)))) M2) : X 0 [some (zR t o), some (zI (c)), none] [] M := hX 29 0 _ [] M (show (zin (kd t) o 0 ((0 : Int32) + c)) ∧ ((0 ≤ c.toInt ∧ c.toInt < 1000) ∧ (0 ≤ ((M.1 t o ((0 : Int32) + c).toNatClampNeg) - (1 : Int32)).toInt ∧ ((M.1 t o ((0 : Int32) + c).toNatClampNeg) - (1 : Int32)).toInt < 1000) ∧ 0 ≤ (4 : Int32).toInt ∧ (4 : Int32).toInt < 1000) ∧ ∀ v1 : Int32, (v1.toInt = 6 + 20 * c.toInt + 5 * ((M.1 t o ((0 : Int32) + c).toNatClampNeg) - (1 : Int32)).toInt + (4 : Int32).toInt) → (zin (kd t) o 0 (126 : Int32)) ∧ (zin (kd t) o 0 v1) ∧ ∀ M2 : zM, (M2 = zmw M t o (upd (M.1 t o) (v1).toNatClampNeg (M.1 t o ((126 : Int32)).toNatClampNeg))) → (zin (kd t) o 0 (126 : Int32)) ∧ ((0 ≤ c.toInt ∧ c.toInt < 1000) ∧ (0 ≤ ((M.1 t o ((0 : Int32) + c).toNatClampNeg) - (1 : Int32)).toInt ∧ ((M.1 t o ((0 : Int32) + c).toNatClampNeg) - (1 : Int32)).toInt < 1000) ∧ 0 ≤ (3 : Int32).toInt ∧ (3 : Int32).toInt < 1000) ∧ ∀ v3 : Int32, (v3.toInt = 6 + 20 * c.toInt + 5 * ((M.1 t o ((0 : Int32) + c).toNatClampNeg) - (1 : Int32)).toInt + (3 : Int32).toInt) → (zin (kd t) o 0 v3) ∧ K (some (zI ((M2.1 t o ((126 : Int32)).toNatClampNeg) - (M2.1 t o (v3).toNatClampNeg)))) M2 from ⟨h.1, have h := h.2; ⟨h.1, have h := h.2; fun v1 => have h := h v1; fun q => have h := h q; ⟨h.1, have h := h.2; ⟨h.1, have h := h.2; fun M2 => have h := h M2; fun q => have h := h q; ⟨h.1, have h := h.2; ⟨h.1, have h := h.2; fun v3 => have h := h v3; fun q => have h := h q; ⟨h.1, have h := h.2; h⟩⟩⟩⟩⟩⟩⟩)
def sp_X8_goWrite : zSpec := fun kd as M K => match as with
  | [.inr (.inr (.inl (t, o))), .inl c, .inl k, .inl g, .inl e] => (kd t = 8) ∧ (o = 1 ∨ o = 5 ∨ o = 10) ∧ ∃ a : Sk, (RpF (M.1 t o) a) ∧ (isC c.toInt) ∧ (sk_canR a c.toInt = false) ∧ (sk_len a c.toInt < 4) ∧ (0 ≤ k.toInt ∧ k.toInt ≤ 5) ∧ (0 ≤ g.toInt ∧ g.toInt ≤ 4) ∧ (e.toInt = 0 ∨ e.toInt = 1) ∧ ∀ v : Int32, (v.toInt = sk_len a c.toInt) → ∀ f : Nat → Int32, (RpF f (sk_wr a c.toInt k.toInt g.toInt e.toInt)) → (∀ j9, 127 ≤ j9 → f j9 = M.1 t o j9) → ∀ M' : zM, (M' = zmw M t o f) → K (some (.inl v)) M'
  | _ => False
theorem dd_X8_goWrite_0 : decode cX8_goWrite 0 = .ok (.aload_n 0, 1) := by decide +kernel
theorem dd_X8_goWrite_1 : decode cX8_goWrite 1 = .ok (.iconst 0, 1) := by decide +kernel
theorem dd_X8_goWrite_2 : decode cX8_goWrite 2 = .ok (.iload_n 1, 1) := by decide +kernel
theorem dd_X8_goWrite_3 : decode cX8_goWrite 3 = .ok (.iadd, 1) := by decide +kernel
theorem dd_X8_goWrite_4 : decode cX8_goWrite 4 = .ok (.iaload, 1) := by decide +kernel
theorem dd_X8_goWrite_5 : decode cX8_goWrite 5 = .ok (.istore 5, 2) := by decide +kernel
theorem dd_X8_goWrite_7 : decode cX8_goWrite 7 = .ok (.aload_n 0, 1) := by decide +kernel
theorem dd_X8_goWrite_8 : decode cX8_goWrite 8 = .ok (.iload_n 1, 1) := by decide +kernel
theorem dd_X8_goWrite_9 : decode cX8_goWrite 9 = .ok (.iload 5, 2) := by decide +kernel
theorem dd_X8_goWrite_11 : decode cX8_goWrite 11 = .ok (.iconst 0, 1) := by decide +kernel
theorem dd_X8_goWrite_12 : decode cX8_goWrite 12 = .ok (.invokestatic 62, 3) := by decide +kernel
theorem dd_X8_goWrite_15 : decode cX8_goWrite 15 = .ok (.iload_n 2, 1) := by decide +kernel
theorem dd_X8_goWrite_16 : decode cX8_goWrite 16 = .ok (.iastore, 1) := by decide +kernel
theorem dd_X8_goWrite_17 : decode cX8_goWrite 17 = .ok (.aload_n 0, 1) := by decide +kernel
theorem dd_X8_goWrite_18 : decode cX8_goWrite 18 = .ok (.iload_n 1, 1) := by decide +kernel
theorem dd_X8_goWrite_19 : decode cX8_goWrite 19 = .ok (.iload 5, 2) := by decide +kernel
theorem dd_X8_goWrite_21 : decode cX8_goWrite 21 = .ok (.iconst 1, 1) := by decide +kernel
theorem dd_X8_goWrite_22 : decode cX8_goWrite 22 = .ok (.invokestatic 62, 3) := by decide +kernel
theorem dd_X8_goWrite_25 : decode cX8_goWrite 25 = .ok (.iload_n 3, 1) := by decide +kernel
theorem dd_X8_goWrite_26 : decode cX8_goWrite 26 = .ok (.iastore, 1) := by decide +kernel
theorem dd_X8_goWrite_27 : decode cX8_goWrite 27 = .ok (.aload_n 0, 1) := by decide +kernel
theorem dd_X8_goWrite_28 : decode cX8_goWrite 28 = .ok (.iload_n 1, 1) := by decide +kernel
theorem dd_X8_goWrite_29 : decode cX8_goWrite 29 = .ok (.iload 5, 2) := by decide +kernel
theorem dd_X8_goWrite_31 : decode cX8_goWrite 31 = .ok (.iconst 2, 1) := by decide +kernel
theorem dd_X8_goWrite_32 : decode cX8_goWrite 32 = .ok (.invokestatic 62, 3) := by decide +kernel
theorem dd_X8_goWrite_35 : decode cX8_goWrite 35 = .ok (.iload 4, 2) := by decide +kernel
theorem dd_X8_goWrite_37 : decode cX8_goWrite 37 = .ok (.iastore, 1) := by decide +kernel
theorem dd_X8_goWrite_38 : decode cX8_goWrite 38 = .ok (.aload_n 0, 1) := by decide +kernel
theorem dd_X8_goWrite_39 : decode cX8_goWrite 39 = .ok (.iload_n 1, 1) := by decide +kernel
theorem dd_X8_goWrite_40 : decode cX8_goWrite 40 = .ok (.iload 5, 2) := by decide +kernel
theorem dd_X8_goWrite_42 : decode cX8_goWrite 42 = .ok (.iconst 3, 1) := by decide +kernel
theorem dd_X8_goWrite_43 : decode cX8_goWrite 43 = .ok (.invokestatic 62, 3) := by decide +kernel
theorem dd_X8_goWrite_46 : decode cX8_goWrite 46 = .ok (.aload_n 0, 1) := by decide +kernel
theorem dd_X8_goWrite_47 : decode cX8_goWrite 47 = .ok (.bipush 126, 2) := by decide +kernel
theorem dd_X8_goWrite_49 : decode cX8_goWrite 49 = .ok (.iaload, 1) := by decide +kernel
theorem dd_X8_goWrite_50 : decode cX8_goWrite 50 = .ok (.iastore, 1) := by decide +kernel
theorem dd_X8_goWrite_51 : decode cX8_goWrite 51 = .ok (.aload_n 0, 1) := by decide +kernel
theorem dd_X8_goWrite_52 : decode cX8_goWrite 52 = .ok (.iload_n 1, 1) := by decide +kernel
theorem dd_X8_goWrite_53 : decode cX8_goWrite 53 = .ok (.iload 5, 2) := by decide +kernel
theorem dd_X8_goWrite_55 : decode cX8_goWrite 55 = .ok (.iconst 4, 1) := by decide +kernel
theorem dd_X8_goWrite_56 : decode cX8_goWrite 56 = .ok (.invokestatic 62, 3) := by decide +kernel
theorem dd_X8_goWrite_59 : decode cX8_goWrite 59 = .ok (.iconst (-1), 1) := by decide +kernel
theorem dd_X8_goWrite_60 : decode cX8_goWrite 60 = .ok (.iastore, 1) := by decide +kernel
theorem dd_X8_goWrite_61 : decode cX8_goWrite 61 = .ok (.aload_n 0, 1) := by decide +kernel
theorem dd_X8_goWrite_62 : decode cX8_goWrite 62 = .ok (.iconst 0, 1) := by decide +kernel
theorem dd_X8_goWrite_63 : decode cX8_goWrite 63 = .ok (.iload_n 1, 1) := by decide +kernel
theorem dd_X8_goWrite_64 : decode cX8_goWrite 64 = .ok (.iadd, 1) := by decide +kernel
theorem dd_X8_goWrite_65 : decode cX8_goWrite 65 = .ok (.dup2, 1) := by decide +kernel
theorem dd_X8_goWrite_66 : decode cX8_goWrite 66 = .ok (.iaload, 1) := by decide +kernel
theorem dd_X8_goWrite_67 : decode cX8_goWrite 67 = .ok (.iconst 1, 1) := by decide +kernel
theorem dd_X8_goWrite_68 : decode cX8_goWrite 68 = .ok (.iadd, 1) := by decide +kernel
theorem dd_X8_goWrite_69 : decode cX8_goWrite 69 = .ok (.iastore, 1) := by decide +kernel
theorem dd_X8_goWrite_70 : decode cX8_goWrite 70 = .ok (.iload 5, 2) := by decide +kernel
theorem dd_X8_goWrite_72 : decode cX8_goWrite 72 = .ok (.ireturn, 1) := by decide +kernel
def tb_X8_goWrite (kd : Nat → Nat) (K : zK) : zTab := [(0, zt_aload 0 1), (1, zt_const (zI 0) 2), (2, zt_iload 1 3), (3, zt_bin (fun x y => x + y) 4), (4, zt_ald kd 0 5), (5, zt_istore 5 7), (7, zt_aload 0 8), (8, zt_iload 1 9), (9, zt_iload 5 11), (11, zt_const (zI 0) 12), (12, zt_call kd sp_X8_at 3 15), (15, zt_iload 2 16), (16, zt_ast kd 0 17), (17, zt_aload 0 18), (18, zt_iload 1 19), (19, zt_iload 5 21), (21, zt_const (zI 1) 22), (22, zt_call kd sp_X8_at 3 25), (25, zt_iload 3 26), (26, zt_ast kd 0 27), (27, zt_aload 0 28), (28, zt_iload 1 29), (29, zt_iload 5 31), (31, zt_const (zI 2) 32), (32, zt_call kd sp_X8_at 3 35), (35, zt_iload 4 37), (37, zt_ast kd 0 38), (38, zt_aload 0 39), (39, zt_iload 1 40), (40, zt_iload 5 42), (42, zt_const (zI 3) 43), (43, zt_call kd sp_X8_at 3 46), (46, zt_aload 0 47), (47, zt_const (zI 126) 49), (49, zt_ald kd 0 50), (50, zt_ast kd 0 51), (51, zt_aload 0 52), (52, zt_iload 1 53), (53, zt_iload 5 55), (55, zt_const (zI 4) 56), (56, zt_call kd sp_X8_at 3 59), (59, zt_const (zI (-1)) 60), (60, zt_ast kd 0 61), (61, zt_aload 0 62), (62, zt_const (zI 0) 63), (63, zt_iload 1 64), (64, zt_bin (fun x y => x + y) 65), (65, zt_dup2 66), (66, zt_ald kd 0 67), (67, zt_const (zI 1) 68), (68, zt_bin (fun x y => x + y) 69), (69, zt_ast kd 0 70), (70, zt_iload 5 72), (72, zt_iret K)]
set_option maxRecDepth 20000 in
theorem tk_X8_goWrite (d : Nat) (h_X8_at : zMS 1 yX8_at cX8_at 3 (some .int) sp_X8_at) : zTrue RX8 cX8_goWrite 6 (some .int) (d + 2) (fun kd K => tb_X8_goWrite kd K) := by
  intro p l e R s m args below meth c D cy A ad bl Qm K C0 hr hlocks hQ
  obtain ⟨hx, hb, hml, hown, hts, hK, hD, hA0, hN, hE, ⟨hR1, hR2⟩, hc1, hc2⟩ := id C0
  unfold tb_X8_goWrite
  refine List.forall_mem_cons.mpr ⟨ok_aload_n hx hb rfl dd_X8_goWrite_0, ?_⟩
  refine List.forall_mem_cons.mpr ⟨ok_iconst hx hb dd_X8_goWrite_1 (by decide), ?_⟩
  refine List.forall_mem_cons.mpr ⟨ok_iload_n hx hb rfl dd_X8_goWrite_2, ?_⟩
  refine List.forall_mem_cons.mpr ⟨ok_iadd hx hb dd_X8_goWrite_3, ?_⟩
  refine List.forall_mem_cons.mpr ⟨ok_ald (ty := 0) rfl hx hb hK (Or.inl ⟨rfl, rfl, dd_X8_goWrite_4⟩), ?_⟩
  refine List.forall_mem_cons.mpr ⟨ok_istore hx hb dd_X8_goWrite_5, ?_⟩
  refine List.forall_mem_cons.mpr ⟨ok_aload_n hx hb rfl dd_X8_goWrite_7, ?_⟩
  refine List.forall_mem_cons.mpr ⟨ok_iload_n hx hb rfl dd_X8_goWrite_8, ?_⟩
  refine List.forall_mem_cons.mpr ⟨ok_iload hx hb dd_X8_goWrite_9, ?_⟩
  refine List.forall_mem_cons.mpr ⟨ok_iconst hx hb dd_X8_goWrite_11 (by decide), ?_⟩
  refine List.forall_mem_cons.mpr ⟨ok_callS (n := 3) C0 (h_X8_at (d + 1) (by omega)) (by decide) wd_942 wd_940 wd_941 wd_107 ⟨by decide +kernel, by decide +kernel, by decide +kernel⟩ dd_X8_goWrite_12, ?_⟩
  refine List.forall_mem_cons.mpr ⟨ok_iload_n hx hb rfl dd_X8_goWrite_15, ?_⟩
  refine List.forall_mem_cons.mpr ⟨ok_ast (ty := 0) rfl hx hb hK hD (Or.inl ⟨rfl, rfl, dd_X8_goWrite_16⟩), ?_⟩
  refine List.forall_mem_cons.mpr ⟨ok_aload_n hx hb rfl dd_X8_goWrite_17, ?_⟩
  refine List.forall_mem_cons.mpr ⟨ok_iload_n hx hb rfl dd_X8_goWrite_18, ?_⟩
  refine List.forall_mem_cons.mpr ⟨ok_iload hx hb dd_X8_goWrite_19, ?_⟩
  refine List.forall_mem_cons.mpr ⟨ok_iconst hx hb dd_X8_goWrite_21 (by decide), ?_⟩
  refine List.forall_mem_cons.mpr ⟨ok_callS (n := 3) C0 (h_X8_at (d + 1) (by omega)) (by decide) wd_942 wd_940 wd_941 wd_107 ⟨by decide +kernel, by decide +kernel, by decide +kernel⟩ dd_X8_goWrite_22, ?_⟩
  refine List.forall_mem_cons.mpr ⟨ok_iload_n hx hb rfl dd_X8_goWrite_25, ?_⟩
  refine List.forall_mem_cons.mpr ⟨ok_ast (ty := 0) rfl hx hb hK hD (Or.inl ⟨rfl, rfl, dd_X8_goWrite_26⟩), ?_⟩
  refine List.forall_mem_cons.mpr ⟨ok_aload_n hx hb rfl dd_X8_goWrite_27, ?_⟩
  refine List.forall_mem_cons.mpr ⟨ok_iload_n hx hb rfl dd_X8_goWrite_28, ?_⟩
  refine List.forall_mem_cons.mpr ⟨ok_iload hx hb dd_X8_goWrite_29, ?_⟩
  refine List.forall_mem_cons.mpr ⟨ok_iconst hx hb dd_X8_goWrite_31 (by decide), ?_⟩
  refine List.forall_mem_cons.mpr ⟨ok_callS (n := 3) C0 (h_X8_at (d + 1) (by omega)) (by decide) wd_942 wd_940 wd_941 wd_107 ⟨by decide +kernel, by decide +kernel, by decide +kernel⟩ dd_X8_goWrite_32, ?_⟩
  refine List.forall_mem_cons.mpr ⟨ok_iload hx hb dd_X8_goWrite_35, ?_⟩
  refine List.forall_mem_cons.mpr ⟨ok_ast (ty := 0) rfl hx hb hK hD (Or.inl ⟨rfl, rfl, dd_X8_goWrite_37⟩), ?_⟩
  refine List.forall_mem_cons.mpr ⟨ok_aload_n hx hb rfl dd_X8_goWrite_38, ?_⟩
  refine List.forall_mem_cons.mpr ⟨ok_iload_n hx hb rfl dd_X8_goWrite_39, ?_⟩
  refine List.forall_mem_cons.mpr ⟨ok_iload hx hb dd_X8_goWrite_40, ?_⟩
  refine List.forall_mem_cons.mpr ⟨ok_iconst hx hb dd_X8_goWrite_42 (by decide), ?_⟩
  refine List.forall_mem_cons.mpr ⟨ok_callS (n := 3) C0 (h_X8_at (d + 1) (by omega)) (by decide) wd_942 wd_940 wd_941 wd_107 ⟨by decide +kernel, by decide +kernel, by decide +kernel⟩ dd_X8_goWrite_43, ?_⟩
  refine List.forall_mem_cons.mpr ⟨ok_aload_n hx hb rfl dd_X8_goWrite_46, ?_⟩
  refine List.forall_mem_cons.mpr ⟨ok_bipush hx hb dd_X8_goWrite_47 (by decide), ?_⟩
  refine List.forall_mem_cons.mpr ⟨ok_ald (ty := 0) rfl hx hb hK (Or.inl ⟨rfl, rfl, dd_X8_goWrite_49⟩), ?_⟩
  refine List.forall_mem_cons.mpr ⟨ok_ast (ty := 0) rfl hx hb hK hD (Or.inl ⟨rfl, rfl, dd_X8_goWrite_50⟩), ?_⟩
  refine List.forall_mem_cons.mpr ⟨ok_aload_n hx hb rfl dd_X8_goWrite_51, ?_⟩
  refine List.forall_mem_cons.mpr ⟨ok_iload_n hx hb rfl dd_X8_goWrite_52, ?_⟩
  refine List.forall_mem_cons.mpr ⟨ok_iload hx hb dd_X8_goWrite_53, ?_⟩
  refine List.forall_mem_cons.mpr ⟨ok_iconst hx hb dd_X8_goWrite_55 (by decide), ?_⟩
  refine List.forall_mem_cons.mpr ⟨ok_callS (n := 3) C0 (h_X8_at (d + 1) (by omega)) (by decide) wd_942 wd_940 wd_941 wd_107 ⟨by decide +kernel, by decide +kernel, by decide +kernel⟩ dd_X8_goWrite_56, ?_⟩
  refine List.forall_mem_cons.mpr ⟨ok_iconst hx hb dd_X8_goWrite_59 (by decide), ?_⟩
  refine List.forall_mem_cons.mpr ⟨ok_ast (ty := 0) rfl hx hb hK hD (Or.inl ⟨rfl, rfl, dd_X8_goWrite_60⟩), ?_⟩
  refine List.forall_mem_cons.mpr ⟨ok_aload_n hx hb rfl dd_X8_goWrite_61, ?_⟩
  refine List.forall_mem_cons.mpr ⟨ok_iconst hx hb dd_X8_goWrite_62 (by decide), ?_⟩
  refine List.forall_mem_cons.mpr ⟨ok_iload_n hx hb rfl dd_X8_goWrite_63, ?_⟩
  refine List.forall_mem_cons.mpr ⟨ok_iadd hx hb dd_X8_goWrite_64, ?_⟩
  refine List.forall_mem_cons.mpr ⟨ok_dup2 hx hb dd_X8_goWrite_65, ?_⟩
  refine List.forall_mem_cons.mpr ⟨ok_ald (ty := 0) rfl hx hb hK (Or.inl ⟨rfl, rfl, dd_X8_goWrite_66⟩), ?_⟩
  refine List.forall_mem_cons.mpr ⟨ok_iconst hx hb dd_X8_goWrite_67 (by decide), ?_⟩
  refine List.forall_mem_cons.mpr ⟨ok_iadd hx hb dd_X8_goWrite_68, ?_⟩
  refine List.forall_mem_cons.mpr ⟨ok_ast (ty := 0) rfl hx hb hK hD (Or.inl ⟨rfl, rfl, dd_X8_goWrite_69⟩), ?_⟩
  refine List.forall_mem_cons.mpr ⟨ok_iload hx hb dd_X8_goWrite_70, ?_⟩
  refine List.forall_mem_cons.mpr ⟨ok_iret hx hb hr hlocks hQ dd_X8_goWrite_72, ?_⟩
  exact fun _ h => absurd h List.not_mem_nil
set_option maxRecDepth 100000 in
theorem vc_X8_goWrite_0 {kd : Nat → Nat} {K : zK} {X : zX} (hX : ∀ (n pc : Nat) (ls : zLS) (st : List zV) (M : zM), zrun (tb_X8_goWrite kd K) [] n X pc ls st M → X pc ls st M) {t o : Nat} {c : Int32} {k : Int32} {g : Int32} {e : Int32} {M : zM}  (h : (zin (kd t) o 0 ((0 : Int32) + c)) ∧ ((0 ≤ c.toInt ∧ c.toInt < 1000) ∧ (0 ≤ (M.1 t o ((0 : Int32) + c).toNatClampNeg).toInt ∧ (M.1 t o ((0 : Int32) + c).toNatClampNeg).toInt < 1000) ∧ 0 ≤ (0 : Int32).toInt ∧ (0 : Int32).toInt < 1000) ∧ ∀ v1 : Int32, (v1.toInt = 6 + 20 * c.toInt + 5 * (M.1 t o ((0 : Int32) + c).toNatClampNeg).toInt + (0 : Int32).toInt) → (zin (kd t) o 0 v1) ∧ ∀ M2 : zM, (M2 = zmw M t o (upd (M.1 t o) (v1).toNatClampNeg k)) → ((0 ≤ c.toInt ∧ c.toInt < 1000) ∧ (0 ≤ (M.1 t o ((0 : Int32) + c).toNatClampNeg).toInt ∧ (M.1 t o ((0 : Int32) + c).toNatClampNeg).toInt < 1000) ∧ 0 ≤ (1 : Int32).toInt ∧ (1 : Int32).toInt < 1000) ∧ ∀ v3 : Int32, (v3.toInt = 6 + 20 * c.toInt + 5 * (M.1 t o ((0 : Int32) + c).toNatClampNeg).toInt + (1 : Int32).toInt) → (zin (kd t) o 0 v3) ∧ ∀ M4 : zM, (M4 = zmw M2 t o (upd (M2.1 t o) (v3).toNatClampNeg g)) → ((0 ≤ c.toInt ∧ c.toInt < 1000) ∧ (0 ≤ (M.1 t o ((0 : Int32) + c).toNatClampNeg).toInt ∧ (M.1 t o ((0 : Int32) + c).toNatClampNeg).toInt < 1000) ∧ 0 ≤ (2 : Int32).toInt ∧ (2 : Int32).toInt < 1000) ∧ ∀ v5 : Int32, (v5.toInt = 6 + 20 * c.toInt + 5 * (M.1 t o ((0 : Int32) + c).toNatClampNeg).toInt + (2 : Int32).toInt) → (zin (kd t) o 0 v5) ∧ ∀ M6 : zM, (M6 = zmw M4 t o (upd (M4.1 t o) (v5).toNatClampNeg e)) → ((0 ≤ c.toInt ∧ c.toInt < 1000) ∧ (0 ≤ (M.1 t o ((0 : Int32) + c).toNatClampNeg).toInt ∧ (M.1 t o ((0 : Int32) + c).toNatClampNeg).toInt < 1000) ∧ 0 ≤ (3 : Int32).toInt ∧ (3 : Int32).toInt < 1000) ∧ ∀ v7 : Int32, (v7.toInt = 6 + 20 * c.toInt + 5 * (M.1 t o ((0 : Int32) + c).toNatClampNeg).toInt + (3 : Int32).toInt) → (zin (kd t) o 0 (126 : Int32)) ∧ (zin (kd t) o 0 v7) ∧ ∀ M8 : zM, (M8 = zmw M6 t o (upd (M6.1 t o) (v7).toNatClampNeg (M6.1 t o ((126 : Int32)).toNatClampNeg))) → ((0 ≤ c.toInt ∧ c.toInt < 1000) ∧ (0 ≤ (M.1 t o ((0 : Int32) + c).toNatClampNeg).toInt ∧ (M.1 t o ((0 : Int32) + c).toNatClampNeg).toInt < 1000) ∧ 0 ≤ (4 : Int32).toInt ∧ (4 : Int32).toInt < 1000) ∧ ∀ v9 : Int32, (v9.toInt = 6 + 20 * c.toInt + 5 * (M.1 t o ((0 : Int32) + c).toNatClampNeg).toInt + (4 : Int32).toInt) → (zin (kd t) o 0 v9) ∧ ∀ M10 : zM, (M10 = zmw M8 t o (upd (M8.1 t o) (v9).toNatClampNeg (-1 : Int32))) → (zin (kd t) o 0 ((0 : Int32) + c)) ∧ (zin (kd t) o 0 ((0 : Int32) + c)) ∧ ∀ M11 : zM, (M11 = zmw M10 t o (upd (M10.1 t o) ((0 : Int32) + c).toNatClampNeg ((M10.1 t o ((0 : Int32) + c).toNatClampNeg) + (1 : Int32)))) → K (some (zI (M.1 t o ((0 : Int32) + c).toNatClampNeg))) M11) : X 0 [some (zR t o), some (zI (c)), some (zI (k)), some (zI (g)), some (zI (e)), none] [] M := hX 55 0 _ [] M (show (zin (kd t) o 0 ((0 : Int32) + c)) ∧ ((0 ≤ c.toInt ∧ c.toInt < 1000) ∧ (0 ≤ (M.1 t o ((0 : Int32) + c).toNatClampNeg).toInt ∧ (M.1 t o ((0 : Int32) + c).toNatClampNeg).toInt < 1000) ∧ 0 ≤ (0 : Int32).toInt ∧ (0 : Int32).toInt < 1000) ∧ ∀ v1 : Int32, (v1.toInt = 6 + 20 * c.toInt + 5 * (M.1 t o ((0 : Int32) + c).toNatClampNeg).toInt + (0 : Int32).toInt) → (zin (kd t) o 0 v1) ∧ ∀ M2 : zM, (M2 = zmw M t o (upd (M.1 t o) (v1).toNatClampNeg k)) → ((0 ≤ c.toInt ∧ c.toInt < 1000) ∧ (0 ≤ (M.1 t o ((0 : Int32) + c).toNatClampNeg).toInt ∧ (M.1 t o ((0 : Int32) + c).toNatClampNeg).toInt < 1000) ∧ 0 ≤ (1 : Int32).toInt ∧ (1 : Int32).toInt < 1000) ∧ ∀ v3 : Int32, (v3.toInt = 6 + 20 * c.toInt + 5 * (M.1 t o ((0 : Int32) + c).toNatClampNeg).toInt + (1 : Int32).toInt) → (zin (kd t) o 0 v3) ∧ ∀ M4 : zM, (M4 = zmw M2 t o (upd (M2.1 t o) (v3).toNatClampNeg g)) → ((0 ≤ c.toInt ∧ c.toInt < 1000) ∧ (0 ≤ (M.1 t o ((0 : Int32) + c).toNatClampNeg).toInt ∧ (M.1 t o ((0 : Int32) + c).toNatClampNeg).toInt < 1000) ∧ 0 ≤ (2 : Int32).toInt ∧ (2 : Int32).toInt < 1000) ∧ ∀ v5 : Int32, (v5.toInt = 6 + 20 * c.toInt + 5 * (M.1 t o ((0 : Int32) + c).toNatClampNeg).toInt + (2 : Int32).toInt) → (zin (kd t) o 0 v5) ∧ ∀ M6 : zM, (M6 = zmw M4 t o (upd (M4.1 t o) (v5).toNatClampNeg e)) → ((0 ≤ c.toInt ∧ c.toInt < 1000) ∧ (0 ≤ (M.1 t o ((0 : Int32) + c).toNatClampNeg).toInt ∧ (M.1 t o ((0 : Int32) + c).toNatClampNeg).toInt < 1000) ∧ 0 ≤ (3 : Int32).toInt ∧ (3 : Int32).toInt < 1000) ∧ ∀ v7 : Int32, (v7.toInt = 6 + 20 * c.toInt + 5 * (M.1 t o ((0 : Int32) + c).toNatClampNeg).toInt + (3 : Int32).toInt) → (zin (kd t) o 0 (126 : Int32)) ∧ (zin (kd t) o 0 v7) ∧ ∀ M8 : zM, (M8 = zmw M6 t o (upd (M6.1 t o) (v7).toNatClampNeg (M6.1 t o ((126 : Int32)).toNatClampNeg))) → ((0 ≤ c.toInt ∧ c.toInt < 1000) ∧ (0 ≤ (M.1 t o ((0 : Int32) + c).toNatClampNeg).toInt ∧ (M.1 t o ((0 : Int32) + c).toNatClampNeg).toInt < 1000) ∧ 0 ≤ (4 : Int32).toInt ∧ (4 : Int32).toInt < 1000) ∧ ∀ v9 : Int32, (v9.toInt = 6 + 20 * c.toInt + 5 * (M.1 t o ((0 : Int32) + c).toNatClampNeg).toInt + (4 : Int32).toInt) → (zin (kd t) o 0 v9) ∧ ∀ M10 : zM, (M10 = zmw M8 t o (upd (M8.1 t o) (v9).toNatClampNeg (-1 : Int32))) → (zin (kd t) o 0 ((0 : Int32) + c)) ∧ (zin (kd t) o 0 ((0 : Int32) + c)) ∧ ∀ M11 : zM, (M11 = zmw M10 t o (upd (M10.1 t o) ((0 : Int32) + c).toNatClampNeg ((M10.1 t o ((0 : Int32) + c).toNatClampNeg) + (1 : Int32)))) → K (some (zI (M.1 t o ((0 : Int32) + c).toNatClampNeg))) M11 from ⟨h.1, have h := h.2; ⟨h.1, have h := h.2; fun v1 => have h := h v1; fun q => have h := h q; ⟨h.1, have h := h.2; fun M2 => have h := h M2; fun q => have h := h q; ⟨h.1, have h := h.2; fun v3 => have h := h v3; fun q => have h := h q; ⟨h.1, have h := h.2; fun M4 => have h := h M4; fun q => have h := h q; ⟨h.1, have h := h.2; fun v5 => have h := h v5; fun q => have h := h q; ⟨h.1, have h := h.2; fun M6 => have h := h M6; fun q => have h := h q; ⟨h.1, have h := h.2; fun v7 => have h := h v7; fun q => have h := h q; ⟨h.1, have h := h.2; ⟨h.1, have h := h.2; fun M8 => have h := h M8; fun q => have h := h q; ⟨h.1, have h := h.2; fun v9 => have h := h v9; fun q => have h := h q; ⟨h.1, have h := h.2; fun M10 => have h := h M10; fun q => have h := h q; ⟨h.1, have h := h.2; ⟨h.1, have h := h.2; fun M11 => have h := h M11; fun q => have h := h q; h⟩⟩⟩⟩⟩⟩⟩⟩⟩⟩⟩⟩⟩⟩)
def sp_X8_goYears : zSpec := fun kd as M K => match as with
  | [.inr (.inr (.inl (t, o))), .inl n] => (kd t = 8) ∧ (o = 1 ∨ o = 5 ∨ o = 10) ∧ ∃ a : Sk, (RpF (M.1 t o) a) ∧ (0 ≤ n.toInt ∧ n.toInt ≤ 99) ∧ ∀ f : Nat → Int32, (RpF f (sk_yr a n.toInt)) → (∀ j9, 127 ≤ j9 → f j9 = M.1 t o j9) → ∀ M' : zM, (M' = zmw M t o f) → K none M'
  | _ => False
theorem dd_X8_goYears_0 : decode cX8_goYears 0 = .ok (.aload_n 0, 1) := by decide +kernel
theorem dd_X8_goYears_1 : decode cX8_goYears 1 = .ok (.bipush 126, 2) := by decide +kernel
theorem dd_X8_goYears_3 : decode cX8_goYears 3 = .ok (.aload_n 0, 1) := by decide +kernel
theorem dd_X8_goYears_4 : decode cX8_goYears 4 = .ok (.bipush 126, 2) := by decide +kernel
theorem dd_X8_goYears_6 : decode cX8_goYears 6 = .ok (.iaload, 1) := by decide +kernel
theorem dd_X8_goYears_7 : decode cX8_goYears 7 = .ok (.iload_n 1, 1) := by decide +kernel
theorem dd_X8_goYears_8 : decode cX8_goYears 8 = .ok (.iadd, 1) := by decide +kernel
theorem dd_X8_goYears_9 : decode cX8_goYears 9 = .ok (.sipush 999, 3) := by decide +kernel
theorem dd_X8_goYears_12 : decode cX8_goYears 12 = .ok (.if_icmp .le 9, 3) := by decide +kernel
theorem dd_X8_goYears_15 : decode cX8_goYears 15 = .ok (.sipush 999, 3) := by decide +kernel
theorem dd_X8_goYears_18 : decode cX8_goYears 18 = .ok (.goto 9, 3) := by decide +kernel
theorem dd_X8_goYears_21 : decode cX8_goYears 21 = .ok (.aload_n 0, 1) := by decide +kernel
theorem dd_X8_goYears_22 : decode cX8_goYears 22 = .ok (.bipush 126, 2) := by decide +kernel
theorem dd_X8_goYears_24 : decode cX8_goYears 24 = .ok (.iaload, 1) := by decide +kernel
theorem dd_X8_goYears_25 : decode cX8_goYears 25 = .ok (.iload_n 1, 1) := by decide +kernel
theorem dd_X8_goYears_26 : decode cX8_goYears 26 = .ok (.iadd, 1) := by decide +kernel
theorem dd_X8_goYears_27 : decode cX8_goYears 27 = .ok (.iastore, 1) := by decide +kernel
theorem dd_X8_goYears_28 : decode cX8_goYears 28 = .ok (.return_, 1) := by decide +kernel
def tb_X8_goYears (kd : Nat → Nat) (K : zK) : zTab := [(0, zt_aload 0 1), (1, zt_const (zI 126) 3), (3, zt_aload 0 4), (4, zt_const (zI 126) 6), (6, zt_ald kd 0 7), (7, zt_iload 1 8), (8, zt_bin (fun x y => x + y) 9), (9, zt_const (zI 999) 12), (12, zt_icmp (fun x y => x ≤ y) (fun x y => ¬ x ≤ y) 21 15), (15, zt_const (zI 999) 18), (18, zt_goto 27), (21, zt_aload 0 22), (22, zt_const (zI 126) 24), (24, zt_ald kd 0 25), (25, zt_iload 1 26), (26, zt_bin (fun x y => x + y) 27), (27, zt_ast kd 0 28), (28, zt_vret K)]
set_option maxRecDepth 20000 in
theorem tk_X8_goYears (d : Nat)  : zTrue RX8 cX8_goYears 2 none (d + 1) (fun kd K => tb_X8_goYears kd K) := by
  intro p l e R s m args below meth c D cy A ad bl Qm K C0 hr hlocks hQ
  obtain ⟨hx, hb, hml, hown, hts, hK, hD, hA0, hN, hE, ⟨hR1, hR2⟩, hc1, hc2⟩ := id C0
  unfold tb_X8_goYears
  refine List.forall_mem_cons.mpr ⟨ok_aload_n hx hb rfl dd_X8_goYears_0, ?_⟩
  refine List.forall_mem_cons.mpr ⟨ok_bipush hx hb dd_X8_goYears_1 (by decide), ?_⟩
  refine List.forall_mem_cons.mpr ⟨ok_aload_n hx hb rfl dd_X8_goYears_3, ?_⟩
  refine List.forall_mem_cons.mpr ⟨ok_bipush hx hb dd_X8_goYears_4 (by decide), ?_⟩
  refine List.forall_mem_cons.mpr ⟨ok_ald (ty := 0) rfl hx hb hK (Or.inl ⟨rfl, rfl, dd_X8_goYears_6⟩), ?_⟩
  refine List.forall_mem_cons.mpr ⟨ok_iload_n hx hb rfl dd_X8_goYears_7, ?_⟩
  refine List.forall_mem_cons.mpr ⟨ok_iadd hx hb dd_X8_goYears_8, ?_⟩
  refine List.forall_mem_cons.mpr ⟨ok_sipush hx hb dd_X8_goYears_9 (by decide), ?_⟩
  refine List.forall_mem_cons.mpr ⟨ok_icmp_le hx hb dd_X8_goYears_12 (by decide), ?_⟩
  refine List.forall_mem_cons.mpr ⟨ok_sipush hx hb dd_X8_goYears_15 (by decide), ?_⟩
  refine List.forall_mem_cons.mpr ⟨ok_goto hx hb dd_X8_goYears_18 (by decide), ?_⟩
  refine List.forall_mem_cons.mpr ⟨ok_aload_n hx hb rfl dd_X8_goYears_21, ?_⟩
  refine List.forall_mem_cons.mpr ⟨ok_bipush hx hb dd_X8_goYears_22 (by decide), ?_⟩
  refine List.forall_mem_cons.mpr ⟨ok_ald (ty := 0) rfl hx hb hK (Or.inl ⟨rfl, rfl, dd_X8_goYears_24⟩), ?_⟩
  refine List.forall_mem_cons.mpr ⟨ok_iload_n hx hb rfl dd_X8_goYears_25, ?_⟩
  refine List.forall_mem_cons.mpr ⟨ok_iadd hx hb dd_X8_goYears_26, ?_⟩
  refine List.forall_mem_cons.mpr ⟨ok_ast (ty := 0) rfl hx hb hK hD (Or.inl ⟨rfl, rfl, dd_X8_goYears_27⟩), ?_⟩
  refine List.forall_mem_cons.mpr ⟨ok_vret hx hb hr hlocks hQ dd_X8_goYears_28, ?_⟩
  exact fun _ h => absurd h List.not_mem_nil
set_option maxRecDepth 100000 in
theorem vc_X8_goYears_0 {kd : Nat → Nat} {K : zK} {X : zX} (hX : ∀ (n pc : Nat) (ls : zLS) (st : List zV) (M : zM), zrun (tb_X8_goYears kd K) [] n X pc ls st M → X pc ls st M) {t o : Nat} {n : Int32} {M : zM}  (h : (zin (kd t) o 0 (126 : Int32)) ∧ ((((M.1 t o ((126 : Int32)).toNatClampNeg) + n) ≤ (999 : Int32)) → (zin (kd t) o 0 (126 : Int32)) ∧ (zin (kd t) o 0 (126 : Int32)) ∧ ∀ M1 : zM, (M1 = zmw M t o (upd (M.1 t o) ((126 : Int32)).toNatClampNeg ((M.1 t o ((126 : Int32)).toNatClampNeg) + n))) → K none M1) ∧ ((¬ ((M.1 t o ((126 : Int32)).toNatClampNeg) + n) ≤ (999 : Int32)) → (zin (kd t) o 0 (126 : Int32)) ∧ ∀ M2 : zM, (M2 = zmw M t o (upd (M.1 t o) ((126 : Int32)).toNatClampNeg (999 : Int32))) → K none M2)) : X 0 [some (zR t o), some (zI (n))] [] M := hX 17 0 _ [] M (show (zin (kd t) o 0 (126 : Int32)) ∧ ((((M.1 t o ((126 : Int32)).toNatClampNeg) + n) ≤ (999 : Int32)) → (zin (kd t) o 0 (126 : Int32)) ∧ (zin (kd t) o 0 (126 : Int32)) ∧ ∀ M1 : zM, (M1 = zmw M t o (upd (M.1 t o) ((126 : Int32)).toNatClampNeg ((M.1 t o ((126 : Int32)).toNatClampNeg) + n))) → K none M1) ∧ ((¬ ((M.1 t o ((126 : Int32)).toNatClampNeg) + n) ≤ (999 : Int32)) → (zin (kd t) o 0 (126 : Int32)) ∧ ∀ M2 : zM, (M2 = zmw M t o (upd (M.1 t o) ((126 : Int32)).toNatClampNeg (999 : Int32))) → K none M2) from ⟨h.1, have h := h.2; ⟨fun q => have h := h.1 q; ⟨h.1, have h := h.2; ⟨h.1, have h := h.2; fun M1 => have h := h M1; fun q => have h := h q; h⟩⟩, fun q => have h := h.2 q; ⟨h.1, have h := h.2; fun M2 => have h := h M2; fun q => have h := h q; h⟩⟩⟩)
def sp_X8_allLayers : zSpec := fun kd as M K => match as with
  | [.inr (.inr (.inl (t, o)))] => (kd t = 8) ∧ (o = 1 ∨ o = 5 ∨ o = 10) ∧ ∃ a : Sk, (RpF (M.1 t o) a) ∧ ∀ v : Int32, (v.toInt = sk_all a) → K (some (.inl v)) M
  | _ => False
theorem dd_X8_allLayers_0 : decode cX8_allLayers 0 = .ok (.iconst 0, 1) := by decide +kernel
theorem dd_X8_allLayers_1 : decode cX8_allLayers 1 = .ok (.istore_n 1, 1) := by decide +kernel
theorem dd_X8_allLayers_2 : decode cX8_allLayers 2 = .ok (.iconst 0, 1) := by decide +kernel
theorem dd_X8_allLayers_3 : decode cX8_allLayers 3 = .ok (.istore_n 2, 1) := by decide +kernel
theorem dd_X8_allLayers_4 : decode cX8_allLayers 4 = .ok (.iload_n 2, 1) := by decide +kernel
theorem dd_X8_allLayers_5 : decode cX8_allLayers 5 = .ok (.bipush 6, 2) := by decide +kernel
theorem dd_X8_allLayers_7 : decode cX8_allLayers 7 = .ok (.if_icmp .ge 17, 3) := by decide +kernel
theorem dd_X8_allLayers_10 : decode cX8_allLayers 10 = .ok (.iload_n 1, 1) := by decide +kernel
theorem dd_X8_allLayers_11 : decode cX8_allLayers 11 = .ok (.aload_n 0, 1) := by decide +kernel
theorem dd_X8_allLayers_12 : decode cX8_allLayers 12 = .ok (.iconst 0, 1) := by decide +kernel
theorem dd_X8_allLayers_13 : decode cX8_allLayers 13 = .ok (.iload_n 2, 1) := by decide +kernel
theorem dd_X8_allLayers_14 : decode cX8_allLayers 14 = .ok (.iadd, 1) := by decide +kernel
theorem dd_X8_allLayers_15 : decode cX8_allLayers 15 = .ok (.iaload, 1) := by decide +kernel
theorem dd_X8_allLayers_16 : decode cX8_allLayers 16 = .ok (.iadd, 1) := by decide +kernel
theorem dd_X8_allLayers_17 : decode cX8_allLayers 17 = .ok (.istore_n 1, 1) := by decide +kernel
theorem dd_X8_allLayers_18 : decode cX8_allLayers 18 = .ok (.iinc 2 1, 3) := by decide +kernel
theorem dd_X8_allLayers_21 : decode cX8_allLayers 21 = .ok (.goto (-17), 3) := by decide +kernel
theorem dd_X8_allLayers_24 : decode cX8_allLayers 24 = .ok (.iload_n 1, 1) := by decide +kernel
theorem dd_X8_allLayers_25 : decode cX8_allLayers 25 = .ok (.ireturn, 1) := by decide +kernel
def tb_X8_allLayers (kd : Nat → Nat) (K : zK) : zTab := [(0, zt_const (zI 0) 1), (1, zt_istore 1 2), (2, zt_const (zI 0) 3), (3, zt_istore 2 4), (4, zt_iload 2 5), (5, zt_const (zI 6) 7), (7, zt_icmp (fun x y => y ≤ x) (fun x y => ¬ y ≤ x) 24 10), (10, zt_iload 1 11), (11, zt_aload 0 12), (12, zt_const (zI 0) 13), (13, zt_iload 2 14), (14, zt_bin (fun x y => x + y) 15), (15, zt_ald kd 0 16), (16, zt_bin (fun x y => x + y) 17), (17, zt_istore 1 18), (18, zt_iinc 2 1 21), (21, zt_goto 4), (24, zt_iload 1 25), (25, zt_iret K)]
set_option maxRecDepth 20000 in
theorem tk_X8_allLayers (d : Nat)  : zTrue RX8 cX8_allLayers 3 (some .int) (d + 1) (fun kd K => tb_X8_allLayers kd K) := by
  intro p l e R s m args below meth c D cy A ad bl Qm K C0 hr hlocks hQ
  obtain ⟨hx, hb, hml, hown, hts, hK, hD, hA0, hN, hE, ⟨hR1, hR2⟩, hc1, hc2⟩ := id C0
  unfold tb_X8_allLayers
  refine List.forall_mem_cons.mpr ⟨ok_iconst hx hb dd_X8_allLayers_0 (by decide), ?_⟩
  refine List.forall_mem_cons.mpr ⟨ok_istore_n hx hb rfl dd_X8_allLayers_1, ?_⟩
  refine List.forall_mem_cons.mpr ⟨ok_iconst hx hb dd_X8_allLayers_2 (by decide), ?_⟩
  refine List.forall_mem_cons.mpr ⟨ok_istore_n hx hb rfl dd_X8_allLayers_3, ?_⟩
  refine List.forall_mem_cons.mpr ⟨ok_iload_n hx hb rfl dd_X8_allLayers_4, ?_⟩
  refine List.forall_mem_cons.mpr ⟨ok_bipush hx hb dd_X8_allLayers_5 (by decide), ?_⟩
  refine List.forall_mem_cons.mpr ⟨ok_icmp_ge hx hb dd_X8_allLayers_7 (by decide), ?_⟩
  refine List.forall_mem_cons.mpr ⟨ok_iload_n hx hb rfl dd_X8_allLayers_10, ?_⟩
  refine List.forall_mem_cons.mpr ⟨ok_aload_n hx hb rfl dd_X8_allLayers_11, ?_⟩
  refine List.forall_mem_cons.mpr ⟨ok_iconst hx hb dd_X8_allLayers_12 (by decide), ?_⟩
  refine List.forall_mem_cons.mpr ⟨ok_iload_n hx hb rfl dd_X8_allLayers_13, ?_⟩
  refine List.forall_mem_cons.mpr ⟨ok_iadd hx hb dd_X8_allLayers_14, ?_⟩
  refine List.forall_mem_cons.mpr ⟨ok_ald (ty := 0) rfl hx hb hK (Or.inl ⟨rfl, rfl, dd_X8_allLayers_15⟩), ?_⟩
  refine List.forall_mem_cons.mpr ⟨ok_iadd hx hb dd_X8_allLayers_16, ?_⟩
  refine List.forall_mem_cons.mpr ⟨ok_istore_n hx hb rfl dd_X8_allLayers_17, ?_⟩
  refine List.forall_mem_cons.mpr ⟨ok_iinc hx hb dd_X8_allLayers_18 (by decide), ?_⟩
  refine List.forall_mem_cons.mpr ⟨ok_goto hx hb dd_X8_allLayers_21 (by decide), ?_⟩
  refine List.forall_mem_cons.mpr ⟨ok_iload_n hx hb rfl dd_X8_allLayers_24, ?_⟩
  refine List.forall_mem_cons.mpr ⟨ok_iret hx hb hr hlocks hQ dd_X8_allLayers_25, ?_⟩
  exact fun _ h => absurd h List.not_mem_nil
set_option maxRecDepth 100000 in
theorem vc_X8_allLayers_0 {kd : Nat → Nat} {K : zK} {X : zX} (hX : ∀ (n pc : Nat) (ls : zLS) (st : List zV) (M : zM), zrun (tb_X8_allLayers kd K) [(4, [])] n X pc ls st M → X pc ls st M) {t o : Nat} {M : zM}  (h : X 4 [some (zR t o), some (zI ((0 : Int32))), some (zI ((0 : Int32)))] [] M) : X 0 [some (zR t o), none, none] [] M := hX 6 0 _ [] M (show X 4 [some (zR t o), some (zI ((0 : Int32))), some (zI ((0 : Int32)))] [] M from h)
set_option maxRecDepth 100000 in
theorem vc_X8_allLayers_4 {kd : Nat → Nat} {K : zK} {X : zX} (hX : ∀ (n pc : Nat) (ls : zLS) (st : List zV) (M : zM), zrun (tb_X8_allLayers kd K) [(4, [])] n X pc ls st M → X pc ls st M) {t : Nat} {o : Nat} {s : Int32} {c : Int32} {M : zM}  (h : (((6 : Int32) ≤ c) → K (some (zI (s))) M) ∧ ((¬ (6 : Int32) ≤ c) → (zin (kd t) o 0 ((0 : Int32) + c)) ∧ X 4 [some (zR t o), some (zI (s + (M.1 t o ((0 : Int32) + c).toNatClampNeg))), some (zI (c + 1))] [] M)) : X 4 [some (zR t o), some (zI (s)), some (zI (c))] [] M := hX 15 4 _ [] M (show (((6 : Int32) ≤ c) → K (some (zI (s))) M) ∧ ((¬ (6 : Int32) ≤ c) → (zin (kd t) o 0 ((0 : Int32) + c)) ∧ X 4 [some (zR t o), some (zI (s + (M.1 t o ((0 : Int32) + c).toNatClampNeg))), some (zI (c + 1))] [] M) from ⟨fun q => have h := h.1 q; h, fun q => have h := h.2 q; ⟨h.1, have h := h.2; h⟩⟩)
