
/-! the whole: a roll with what may be undone and what was seen; images, text, fraction, refusals -/
abbrev Rl : Type := Sk × List Sk × List Se
abbrev St : Type := Rl × (Nat → Option Rl) × List Int × (Int × Int) × (Nat → Int32)
def stp (b : Sk) (w : Int) (a : Sk) : Prop := if w < 100 then (0 ≤ w ∧ w < 20) ∧ sk_aft b w a else w = 100 + b.2 ∧ a.1 = b.1
def okH (a : Sk) (L : List Int) (hs : List Sk) : Prop := L.length = hs.length ∧ (∀ b, b ∈ hs → okSk b) ∧ ∀ (i : Nat) (w : Int) (b a' : Sk), L[i]? = some w → hs[i]? = some b → (hs ++ [a])[i + 1]? = some a' → stp b w a'
def hAdd (hs : List Sk) (a : Sk) : List Sk := (if hs.length < 6 then hs else hs.drop 1) ++ [a]
def RpO (M : zM) (n : Nat) (r : Rl) : Prop := RpS (M.1 (n + 1)) r.1 ∧ (∃ L, RpT (M.1 (n + 2)) L ∧ okH r.1 L r.2.1) ∧ RpL (M.1 (n + 3)) r.2.2
def RpX (kd : Nat → Nat) (M : zM) (s : St) : Prop := RpO M 1 s.1 ∧ (∀ j, j < 2 → ((s.2.1 j).isSome = true ↔ kd (10 + 4 * j) = 2) ∧ ∀ r, s.2.1 j = some r → RpO M (10 + 4 * j) r) ∧ RpB (M.1 8) s.2.2.1 ∧ ((M.2 0 6).toInt = s.2.2.2.1.1 ∧ (M.2 0 7).toInt = s.2.2.2.1.2) ∧ (∀ n, n < 3 → M.1 0 2 n = s.2.2.2.2 n)
def KdX (kd : Nat → Nat) : Prop := kd 0 = 1 ∧ kd 1 = 2 ∧ kd 2 = 3 ∧ kd 3 = 4 ∧ kd 4 = 5 ∧ kd 5 = 3 ∧ kd 6 = 6 ∧ kd 7 = 3 ∧ kd 8 = 7 ∧ ∀ j, j < 2 → kd (10 + 4 * j) = 2 → kd (11 + 4 * j) = 3 ∧ kd (12 + 4 * j) = 4 ∧ kd (13 + 4 * j) = 5
def fr9 (M M' : zM) : Prop := M'.1 9 = M.1 9 ∧ M'.2 9 = M.2 9
def sRf (s : St) (k : Nat) : St := (s.1, s.2.1, s.2.2.1, s.2.2.2.1, fun n => if n = k then s.2.2.2.2 k + 1 else s.2.2.2.2 n)
def sRo (s : St) (r : Rl) : St := (r, s.2)
def rlDo (r : Rl) (a : Sk) : Rl := (a, hAdd r.2.1 r.1, r.2.2)
abbrev isC (c : Int) : Prop := 0 ≤ c ∧ c < 6
abbrev isT (c : Int) : Prop := 0 ≤ c ∧ c < 5
abbrev isY (c : Int) : Prop := 0 ≤ c ∧ c ≤ 999
abbrev inn (c lo hi : Int) : Prop := lo ≤ c ∧ c ≤ hi
def ev_roll (s : St) : Int × St := (sk_all s.1.1, sRo s (sk_0, [], []))
def ev_write (s : St) (c k g e : Int) : Int × St := if isC c ∧ inn k 0 5 ∧ isT g ∧ inn e 0 1 then (if sk_canR s.1.1 c then (-3, sRf s 1) else if sk_len s.1.1 c < 4 then (sk_len s.1.1 c, sRo s (rlDo s.1 (sk_wr s.1.1 c k g e))) else (-4, sRf s 2)) else (-2, sRf s 0)
def ev_rub (s : St) (c : Int) : Int × St := if isC c then (if sk_canR s.1.1 c then (s.1.1.2 - (match sk_top s.1.1 c with | some l => l.2.2.2.1 | none => 0), sRo s (rlDo s.1 (sk_rub s.1.1 c))) else (-3, sRf s 1)) else (-2, sRf s 0)
def ev_years (s : St) (n : Int) : Int × St := if inn n 1 99 then ((sk_yr s.1.1 n).2, sRo s (rlDo s.1 (sk_yr s.1.1 n))) else (-2, sRf s 0)
def ev_undo (s : St) : Int × St := match s.1.2.1.getLast? with | some b => (b.2, sRo s (b, s.1.2.1.dropLast, s.1.2.2)) | none => (-3, sRf s 1)
def ev_type (s : St) (c : Int) : Int × St := if inn c 0 127 then (if s.2.2.1.length < 150 then ((s.2.2.1.length : Int) + 1, (s.1, s.2.1, s.2.2.1 ++ [c], s.2.2.2)) else (-4, sRf s 2)) else (-2, sRf s 0)
def ev_clear (s : St) : Int × St := ((s.2.2.1.length : Int), (s.1, s.2.1, [], s.2.2.2))
def ev_read (s : St) : Int × St := if (rdAll s.2.2.1).1 = -1 then (-10 - ((rdAll s.2.2.1).2.1.1 : Int), s) else ((rdAll s.2.2.1).1, sRo s ((rdAll s.2.2.1).2.2, [], []))
def ev_layers (s : St) (c : Int) : Int × St := if isC c then (sk_len s.1.1 c, s) else (-2, sRf s 0)
def ev_of (s : St) (c i w : Int) : Int × St := match sk_at s.1.1 c i with | some l => (if inn w 0 4 then (ly_f l w, s) else (-10, sRf s 0)) | none => (-10, sRf s 0)
def ev_binds (s : St) (c i y : Int) : Int × St := if (sk_at s.1.1 c i).isSome ∧ isY y then (b2i (sk_bd s.1.1 c i y), s) else (-2, sRf s 0)
def ev_rule (s : St) (g y : Int) : Int × St := if isT g ∧ isY y then (sk_law s.1.1 g y, s) else (-2, sRf s 0)
def ev_tear (s : St) (y c : Int) : Int × St := if isY y ∧ (c = -1 ∨ isC c) then ((if c = -1 then sk_torn s.1.1 y else sk_tof s.1.1 c y), s) else (-10, sRf s 0)
def ev_hangs (s : St) (c i y : Int) : Int × St := if (sk_at s.1.1 c i).isSome ∧ isY y then (sk_hang s.1.1 c i y, s) else (-2, sRf s 0)
def ev_seen (s : St) (c i y e : Int) : Int × St := if (sk_at s.1.1 c i).isSome ∧ isY y ∧ inn e 0 1 then (if s.1.2.2.length < 6 then ((s.1.2.2.length : Int) + 1, sRo s (s.1.1, s.1.2.1, s.1.2.2 ++ [(c, i, y, e)])) else (-4, sRf s 2)) else (-2, sRf s 0)
def ev_forget (s : St) : Int × St := ((s.1.2.2.length : Int), sRo s (s.1.1, s.1.2.1, []))
def ev_is (s : St) (c i : Int) : Int × St := match sk_at s.1.1 c i with | some l => (seFit s.1.2.2 l (sk_at s.1.1 c (i + 1)) c i, s) | none => (-2, sRf s 0)
def ev_from (s : St) (j : Int) : Int × St := if inn j 0 1 then (match s.2.1 j.toNat with | some r => (1, sRo s r) | none => (-3, sRf s 1)) else (-2, sRf s 0)
def ev_status (s : St) (w : Int) : Int × St := if inn w 0 2 then ((s.2.2.2.2 w.toNat).toInt, s) else (-1, sRf s 0)
def ev_count (s : St) (w : Int) : Int × St := if w = 0 then (sk_all s.1.1, s) else if w = 1 then (s.1.1.2, s) else if w = 2 then (sk_bi s.1.1 s.1.1.2, s) else if w = 3 then (sk_qu s.1.1 s.1.1.2, s) else if w = 4 then ((s.1.2.2.length : Int), s) else if w = 5 then ((s.1.2.1.length : Int), s) else if w = 6 then ((s.2.2.1.length : Int), s) else (-2, sRf s 0)
def sp_X7_isThing : zSpec := fun kd as M K => match as with
  | [.inl c] => ∀ v : Int32, (v = zp (isT c.toInt)) → K (some (.inl v)) M
  | _ => False
theorem dd_X7_isThing_0 : decode cX7_isThing 0 = .ok (.iload_n 0, 1) := by decide +kernel
theorem dd_X7_isThing_1 : decode cX7_isThing 1 = .ok (.ifCond .lt 12, 3) := by decide +kernel
theorem dd_X7_isThing_4 : decode cX7_isThing 4 = .ok (.iload_n 0, 1) := by decide +kernel
theorem dd_X7_isThing_5 : decode cX7_isThing 5 = .ok (.iconst 5, 1) := by decide +kernel
theorem dd_X7_isThing_6 : decode cX7_isThing 6 = .ok (.if_icmp .ge 7, 3) := by decide +kernel
theorem dd_X7_isThing_9 : decode cX7_isThing 9 = .ok (.iconst 1, 1) := by decide +kernel
theorem dd_X7_isThing_10 : decode cX7_isThing 10 = .ok (.goto 4, 3) := by decide +kernel
theorem dd_X7_isThing_13 : decode cX7_isThing 13 = .ok (.iconst 0, 1) := by decide +kernel
theorem dd_X7_isThing_14 : decode cX7_isThing 14 = .ok (.ireturn, 1) := by decide +kernel
def tb_X7_isThing (kd : Nat → Nat) (K : zK) : zTab := [(0, zt_iload 0 1), (1, zt_if (fun x => x < 0) (fun x => ¬ x < 0) 13 4), (4, zt_iload 0 5), (5, zt_const (zI 5) 6), (6, zt_icmp (fun x y => y ≤ x) (fun x y => ¬ y ≤ x) 13 9), (9, zt_const (zI 1) 10), (10, zt_goto 14), (13, zt_const (zI 0) 14), (14, zt_zret K)]
set_option maxRecDepth 20000 in
theorem tk_X7_isThing (d : Nat)  : zTrue RX7 cX7_isThing 1 (some .boolean) (d + 1) (fun kd K => tb_X7_isThing kd K) := by
  intro p l e R s m args below meth c D cy A ad bl Qm K C0 hr hlocks hQ
  obtain ⟨hx, hb, hml, hown, hts, hK, hD, hA0, hN, hE, ⟨hR1, hR2⟩, hc1, hc2⟩ := id C0
  unfold tb_X7_isThing
  refine List.forall_mem_cons.mpr ⟨ok_iload_n hx hb rfl dd_X7_isThing_0, ?_⟩
  refine List.forall_mem_cons.mpr ⟨ok_if_lt hx hb dd_X7_isThing_1 (by decide), ?_⟩
  refine List.forall_mem_cons.mpr ⟨ok_iload_n hx hb rfl dd_X7_isThing_4, ?_⟩
  refine List.forall_mem_cons.mpr ⟨ok_iconst hx hb dd_X7_isThing_5 (by decide), ?_⟩
  refine List.forall_mem_cons.mpr ⟨ok_icmp_ge hx hb dd_X7_isThing_6 (by decide), ?_⟩
  refine List.forall_mem_cons.mpr ⟨ok_iconst hx hb dd_X7_isThing_9 (by decide), ?_⟩
  refine List.forall_mem_cons.mpr ⟨ok_goto hx hb dd_X7_isThing_10 (by decide), ?_⟩
  refine List.forall_mem_cons.mpr ⟨ok_iconst hx hb dd_X7_isThing_13 (by decide), ?_⟩
  refine List.forall_mem_cons.mpr ⟨ok_zret hx hb hr hlocks hQ dd_X7_isThing_14, ?_⟩
  exact fun _ h => absurd h List.not_mem_nil
set_option maxRecDepth 100000 in
theorem vc_X7_isThing_0 {kd : Nat → Nat} {K : zK} {X : zX} (hX : ∀ (n pc : Nat) (ls : zLS) (st : List zV) (M : zM), zrun (tb_X7_isThing kd K) [] n X pc ls st M → X pc ls st M) {c : Int32} {M : zM}  (h : ((c < 0) → K (some (zI ((0 : Int32)))) M) ∧ ((¬ c < 0) → (((5 : Int32) ≤ c) → K (some (zI ((0 : Int32)))) M) ∧ ((¬ (5 : Int32) ≤ c) → K (some (zI ((1 : Int32)))) M))) : X 0 [some (zI (c))] [] M := hX 9 0 _ [] M (show ((c < 0) → ((0 : Int32) = 0 ∨ (0 : Int32) = 1) ∧ K (some (zI ((0 : Int32)))) M) ∧ ((¬ c < 0) → (((5 : Int32) ≤ c) → ((0 : Int32) = 0 ∨ (0 : Int32) = 1) ∧ K (some (zI ((0 : Int32)))) M) ∧ ((¬ (5 : Int32) ≤ c) → ((1 : Int32) = 0 ∨ (1 : Int32) = 1) ∧ K (some (zI ((1 : Int32)))) M)) from ⟨fun q => have h := h.1 q; ⟨(Or.inl rfl), h⟩, fun q => have h := h.2 q; ⟨fun q => have h := h.1 q; ⟨(Or.inl rfl), h⟩, fun q => have h := h.2 q; ⟨(Or.inr rfl), h⟩⟩⟩)
def sp_X7_isYear : zSpec := fun kd as M K => match as with
  | [.inl c] => ∀ v : Int32, (v = zp (isY c.toInt)) → K (some (.inl v)) M
  | _ => False
theorem dd_X7_isYear_0 : decode cX7_isYear 0 = .ok (.iload_n 0, 1) := by decide +kernel
theorem dd_X7_isYear_1 : decode cX7_isYear 1 = .ok (.ifCond .lt 14, 3) := by decide +kernel
theorem dd_X7_isYear_4 : decode cX7_isYear 4 = .ok (.iload_n 0, 1) := by decide +kernel
theorem dd_X7_isYear_5 : decode cX7_isYear 5 = .ok (.sipush 999, 3) := by decide +kernel
theorem dd_X7_isYear_8 : decode cX7_isYear 8 = .ok (.if_icmp .gt 7, 3) := by decide +kernel
theorem dd_X7_isYear_11 : decode cX7_isYear 11 = .ok (.iconst 1, 1) := by decide +kernel
theorem dd_X7_isYear_12 : decode cX7_isYear 12 = .ok (.goto 4, 3) := by decide +kernel
theorem dd_X7_isYear_15 : decode cX7_isYear 15 = .ok (.iconst 0, 1) := by decide +kernel
theorem dd_X7_isYear_16 : decode cX7_isYear 16 = .ok (.ireturn, 1) := by decide +kernel
def tb_X7_isYear (kd : Nat → Nat) (K : zK) : zTab := [(0, zt_iload 0 1), (1, zt_if (fun x => x < 0) (fun x => ¬ x < 0) 15 4), (4, zt_iload 0 5), (5, zt_const (zI 999) 8), (8, zt_icmp (fun x y => y < x) (fun x y => ¬ y < x) 15 11), (11, zt_const (zI 1) 12), (12, zt_goto 16), (15, zt_const (zI 0) 16), (16, zt_zret K)]
set_option maxRecDepth 20000 in
theorem tk_X7_isYear (d : Nat)  : zTrue RX7 cX7_isYear 1 (some .boolean) (d + 1) (fun kd K => tb_X7_isYear kd K) := by
  intro p l e R s m args below meth c D cy A ad bl Qm K C0 hr hlocks hQ
  obtain ⟨hx, hb, hml, hown, hts, hK, hD, hA0, hN, hE, ⟨hR1, hR2⟩, hc1, hc2⟩ := id C0
  unfold tb_X7_isYear
  refine List.forall_mem_cons.mpr ⟨ok_iload_n hx hb rfl dd_X7_isYear_0, ?_⟩
  refine List.forall_mem_cons.mpr ⟨ok_if_lt hx hb dd_X7_isYear_1 (by decide), ?_⟩
  refine List.forall_mem_cons.mpr ⟨ok_iload_n hx hb rfl dd_X7_isYear_4, ?_⟩
  refine List.forall_mem_cons.mpr ⟨ok_sipush hx hb dd_X7_isYear_5 (by decide), ?_⟩
  refine List.forall_mem_cons.mpr ⟨ok_icmp_gt hx hb dd_X7_isYear_8 (by decide), ?_⟩
  refine List.forall_mem_cons.mpr ⟨ok_iconst hx hb dd_X7_isYear_11 (by decide), ?_⟩
  refine List.forall_mem_cons.mpr ⟨ok_goto hx hb dd_X7_isYear_12 (by decide), ?_⟩
  refine List.forall_mem_cons.mpr ⟨ok_iconst hx hb dd_X7_isYear_15 (by decide), ?_⟩
  refine List.forall_mem_cons.mpr ⟨ok_zret hx hb hr hlocks hQ dd_X7_isYear_16, ?_⟩
  exact fun _ h => absurd h List.not_mem_nil
set_option maxRecDepth 100000 in
theorem vc_X7_isYear_0 {kd : Nat → Nat} {K : zK} {X : zX} (hX : ∀ (n pc : Nat) (ls : zLS) (st : List zV) (M : zM), zrun (tb_X7_isYear kd K) [] n X pc ls st M → X pc ls st M) {c : Int32} {M : zM}  (h : ((c < 0) → K (some (zI ((0 : Int32)))) M) ∧ ((¬ c < 0) → (((999 : Int32) < c) → K (some (zI ((0 : Int32)))) M) ∧ ((¬ (999 : Int32) < c) → K (some (zI ((1 : Int32)))) M))) : X 0 [some (zI (c))] [] M := hX 9 0 _ [] M (show ((c < 0) → ((0 : Int32) = 0 ∨ (0 : Int32) = 1) ∧ K (some (zI ((0 : Int32)))) M) ∧ ((¬ c < 0) → (((999 : Int32) < c) → ((0 : Int32) = 0 ∨ (0 : Int32) = 1) ∧ K (some (zI ((0 : Int32)))) M) ∧ ((¬ (999 : Int32) < c) → ((1 : Int32) = 0 ∨ (1 : Int32) = 1) ∧ K (some (zI ((1 : Int32)))) M)) from ⟨fun q => have h := h.1 q; ⟨(Or.inl rfl), h⟩, fun q => have h := h.2 q; ⟨fun q => have h := h.1 q; ⟨(Or.inl rfl), h⟩, fun q => have h := h.2 q; ⟨(Or.inr rfl), h⟩⟩⟩)
def sp_X7_isImage : zSpec := fun kd as M K => match as with
  | [.inl c] => ∀ v : Int32, (v = zp (inn c.toInt 0 1)) → K (some (.inl v)) M
  | _ => False
theorem dd_X7_isImage_0 : decode cX7_isImage 0 = .ok (.iload_n 0, 1) := by decide +kernel
theorem dd_X7_isImage_1 : decode cX7_isImage 1 = .ok (.ifCond .lt 12, 3) := by decide +kernel
theorem dd_X7_isImage_4 : decode cX7_isImage 4 = .ok (.iload_n 0, 1) := by decide +kernel
theorem dd_X7_isImage_5 : decode cX7_isImage 5 = .ok (.iconst 2, 1) := by decide +kernel
theorem dd_X7_isImage_6 : decode cX7_isImage 6 = .ok (.if_icmp .ge 7, 3) := by decide +kernel
theorem dd_X7_isImage_9 : decode cX7_isImage 9 = .ok (.iconst 1, 1) := by decide +kernel
theorem dd_X7_isImage_10 : decode cX7_isImage 10 = .ok (.goto 4, 3) := by decide +kernel
theorem dd_X7_isImage_13 : decode cX7_isImage 13 = .ok (.iconst 0, 1) := by decide +kernel
theorem dd_X7_isImage_14 : decode cX7_isImage 14 = .ok (.ireturn, 1) := by decide +kernel
def tb_X7_isImage (kd : Nat → Nat) (K : zK) : zTab := [(0, zt_iload 0 1), (1, zt_if (fun x => x < 0) (fun x => ¬ x < 0) 13 4), (4, zt_iload 0 5), (5, zt_const (zI 2) 6), (6, zt_icmp (fun x y => y ≤ x) (fun x y => ¬ y ≤ x) 13 9), (9, zt_const (zI 1) 10), (10, zt_goto 14), (13, zt_const (zI 0) 14), (14, zt_zret K)]
set_option maxRecDepth 20000 in
theorem tk_X7_isImage (d : Nat)  : zTrue RX7 cX7_isImage 1 (some .boolean) (d + 1) (fun kd K => tb_X7_isImage kd K) := by
  intro p l e R s m args below meth c D cy A ad bl Qm K C0 hr hlocks hQ
  obtain ⟨hx, hb, hml, hown, hts, hK, hD, hA0, hN, hE, ⟨hR1, hR2⟩, hc1, hc2⟩ := id C0
  unfold tb_X7_isImage
  refine List.forall_mem_cons.mpr ⟨ok_iload_n hx hb rfl dd_X7_isImage_0, ?_⟩
  refine List.forall_mem_cons.mpr ⟨ok_if_lt hx hb dd_X7_isImage_1 (by decide), ?_⟩
  refine List.forall_mem_cons.mpr ⟨ok_iload_n hx hb rfl dd_X7_isImage_4, ?_⟩
  refine List.forall_mem_cons.mpr ⟨ok_iconst hx hb dd_X7_isImage_5 (by decide), ?_⟩
  refine List.forall_mem_cons.mpr ⟨ok_icmp_ge hx hb dd_X7_isImage_6 (by decide), ?_⟩
  refine List.forall_mem_cons.mpr ⟨ok_iconst hx hb dd_X7_isImage_9 (by decide), ?_⟩
  refine List.forall_mem_cons.mpr ⟨ok_goto hx hb dd_X7_isImage_10 (by decide), ?_⟩
  refine List.forall_mem_cons.mpr ⟨ok_iconst hx hb dd_X7_isImage_13 (by decide), ?_⟩
  refine List.forall_mem_cons.mpr ⟨ok_zret hx hb hr hlocks hQ dd_X7_isImage_14, ?_⟩
  exact fun _ h => absurd h List.not_mem_nil
set_option maxRecDepth 100000 in
theorem vc_X7_isImage_0 {kd : Nat → Nat} {K : zK} {X : zX} (hX : ∀ (n pc : Nat) (ls : zLS) (st : List zV) (M : zM), zrun (tb_X7_isImage kd K) [] n X pc ls st M → X pc ls st M) {c : Int32} {M : zM}  (h : ((c < 0) → K (some (zI ((0 : Int32)))) M) ∧ ((¬ c < 0) → (((2 : Int32) ≤ c) → K (some (zI ((0 : Int32)))) M) ∧ ((¬ (2 : Int32) ≤ c) → K (some (zI ((1 : Int32)))) M))) : X 0 [some (zI (c))] [] M := hX 9 0 _ [] M (show ((c < 0) → ((0 : Int32) = 0 ∨ (0 : Int32) = 1) ∧ K (some (zI ((0 : Int32)))) M) ∧ ((¬ c < 0) → (((2 : Int32) ≤ c) → ((0 : Int32) = 0 ∨ (0 : Int32) = 1) ∧ K (some (zI ((0 : Int32)))) M) ∧ ((¬ (2 : Int32) ≤ c) → ((1 : Int32) = 0 ∨ (1 : Int32) = 1) ∧ K (some (zI ((1 : Int32)))) M)) from ⟨fun q => have h := h.1 q; ⟨(Or.inl rfl), h⟩, fun q => have h := h.2 q; ⟨fun q => have h := h.1 q; ⟨(Or.inl rfl), h⟩, fun q => have h := h.2 q; ⟨(Or.inr rfl), h⟩⟩⟩)
def sp_X7_refuse : zSpec := fun kd as M K => match as with
  | [.inr (.inr (.inl (0, 0))), .inl w] => (kd 0 = 1) ∧ ∃ s : St, (RpX kd M s) ∧ ∃ k : Nat, (k < 3 ∧ w.toInt = -2 - (k : Int)) ∧ ∀ v : Int32, (v = w) → ∀ M' : zM, (RpX kd M' (sRf s k)) → (fr9 M M') → K (some (.inl v)) M'
  | _ => False
theorem rv_X7_refuse : zrv sp_X7_refuse 1 1 := by
  intro kd as M K h
  unfold sp_X7_refuse at h
  split at h
  · exact ⟨_, _, rfl, h.1⟩
  · exact h.elim
theorem dd_X7_refuse_0 : decode cX7_refuse 0 = .ok (.bipush (-2), 2) := by decide +kernel
theorem dd_X7_refuse_2 : decode cX7_refuse 2 = .ok (.iload_n 1, 1) := by decide +kernel
theorem dd_X7_refuse_3 : decode cX7_refuse 3 = .ok (.isub, 1) := by decide +kernel
theorem dd_X7_refuse_4 : decode cX7_refuse 4 = .ok (.istore_n 2, 1) := by decide +kernel
theorem dd_X7_refuse_5 : decode cX7_refuse 5 = .ok (.iload_n 2, 1) := by decide +kernel
theorem dd_X7_refuse_6 : decode cX7_refuse 6 = .ok (.iconst 0, 1) := by decide +kernel
theorem dd_X7_refuse_7 : decode cX7_refuse 7 = .ok (.iconst 2, 1) := by decide +kernel
theorem dd_X7_refuse_8 : decode cX7_refuse 8 = .ok (.invokestatic 66, 3) := by decide +kernel
theorem dd_X7_refuse_11 : decode cX7_refuse 11 = .ok (.ifCond .eq 13, 3) := by decide +kernel
theorem dd_X7_refuse_14 : decode cX7_refuse 14 = .ok (.aload_n 0, 1) := by decide +kernel
theorem dd_X7_refuse_15 : decode cX7_refuse 15 = .ok (.getfield 41, 3) := by decide +kernel
theorem dd_X7_refuse_18 : decode cX7_refuse 18 = .ok (.iload_n 2, 1) := by decide +kernel
theorem dd_X7_refuse_19 : decode cX7_refuse 19 = .ok (.dup2, 1) := by decide +kernel
theorem dd_X7_refuse_20 : decode cX7_refuse 20 = .ok (.iaload, 1) := by decide +kernel
theorem dd_X7_refuse_21 : decode cX7_refuse 21 = .ok (.iconst 1, 1) := by decide +kernel
theorem dd_X7_refuse_22 : decode cX7_refuse 22 = .ok (.iadd, 1) := by decide +kernel
theorem dd_X7_refuse_23 : decode cX7_refuse 23 = .ok (.iastore, 1) := by decide +kernel
theorem dd_X7_refuse_24 : decode cX7_refuse 24 = .ok (.iload_n 1, 1) := by decide +kernel
theorem dd_X7_refuse_25 : decode cX7_refuse 25 = .ok (.ireturn, 1) := by decide +kernel
def tb_X7_refuse (kd : Nat → Nat) (K : zK) : zTab := [(0, zt_const (zI (-2)) 2), (2, zt_iload 1 3), (3, zt_bin (fun x y => x - y) 4), (4, zt_istore 2 5), (5, zt_iload 2 6), (6, zt_const (zI 0) 7), (7, zt_const (zI 2) 8), (8, zt_call kd sp_X7_within 3 11), (11, zt_if (fun x => x = 0) (fun x => ¬ x = 0) 24 14), (14, zt_aload 0 15), (15, zt_getR kd 1 0 2 18), (18, zt_iload 2 19), (19, zt_dup2 20), (20, zt_ald kd 0 21), (21, zt_const (zI 1) 22), (22, zt_bin (fun x y => x + y) 23), (23, zt_ast kd 0 24), (24, zt_iload 1 25), (25, zt_iret K)]
set_option maxRecDepth 20000 in
theorem tk_X7_refuse (d : Nat) (h_X7_within : zMS 1 yX7_within cX7_within 3 (some .boolean) sp_X7_within) : zTrue RX7 cX7_refuse 3 (some .int) (d + 2) (fun kd K => tb_X7_refuse kd K) := by
  intro p l e R s m args below meth c D cy A ad bl Qm K C0 hr hlocks hQ
  obtain ⟨hx, hb, hml, hown, hts, hK, hD, hA0, hN, hE, ⟨hR1, hR2⟩, hc1, hc2⟩ := id C0
  unfold tb_X7_refuse
  refine List.forall_mem_cons.mpr ⟨ok_bipush hx hb dd_X7_refuse_0 (by decide), ?_⟩
  refine List.forall_mem_cons.mpr ⟨ok_iload_n hx hb rfl dd_X7_refuse_2, ?_⟩
  refine List.forall_mem_cons.mpr ⟨ok_isub hx hb dd_X7_refuse_3, ?_⟩
  refine List.forall_mem_cons.mpr ⟨ok_istore_n hx hb rfl dd_X7_refuse_4, ?_⟩
  refine List.forall_mem_cons.mpr ⟨ok_iload_n hx hb rfl dd_X7_refuse_5, ?_⟩
  refine List.forall_mem_cons.mpr ⟨ok_iconst hx hb dd_X7_refuse_6 (by decide), ?_⟩
  refine List.forall_mem_cons.mpr ⟨ok_iconst hx hb dd_X7_refuse_7 (by decide), ?_⟩
  refine List.forall_mem_cons.mpr ⟨ok_callS (n := 3) C0 (h_X7_within (d + 1) (by omega)) (by decide) wd_321 wd_319 wd_320 wd_100 ⟨by decide +kernel, by decide +kernel, by decide +kernel⟩ dd_X7_refuse_8, ?_⟩
  refine List.forall_mem_cons.mpr ⟨ok_if_eq hx hb dd_X7_refuse_11 (by decide), ?_⟩
  refine List.forall_mem_cons.mpr ⟨ok_aload_n hx hb rfl dd_X7_refuse_14, ?_⟩
  refine List.forall_mem_cons.mpr ⟨ok_getR (j := 5) hx hb hts zi_X7 hown hK zc_X7 (by decide) rfl (fun t fl h => by cases h; rfl) (hts _ wd_276) dd_X7_refuse_15, ?_⟩
  refine List.forall_mem_cons.mpr ⟨ok_iload_n hx hb rfl dd_X7_refuse_18, ?_⟩
  refine List.forall_mem_cons.mpr ⟨ok_dup2 hx hb dd_X7_refuse_19, ?_⟩
  refine List.forall_mem_cons.mpr ⟨ok_ald (ty := 0) rfl hx hb hK (Or.inl ⟨rfl, rfl, dd_X7_refuse_20⟩), ?_⟩
  refine List.forall_mem_cons.mpr ⟨ok_iconst hx hb dd_X7_refuse_21 (by decide), ?_⟩
  refine List.forall_mem_cons.mpr ⟨ok_iadd hx hb dd_X7_refuse_22, ?_⟩
  refine List.forall_mem_cons.mpr ⟨ok_ast (ty := 0) rfl hx hb hK hD (Or.inl ⟨rfl, rfl, dd_X7_refuse_23⟩), ?_⟩
  refine List.forall_mem_cons.mpr ⟨ok_iload_n hx hb rfl dd_X7_refuse_24, ?_⟩
  refine List.forall_mem_cons.mpr ⟨ok_iret hx hb hr hlocks hQ dd_X7_refuse_25, ?_⟩
  exact fun _ h => absurd h List.not_mem_nil
set_option maxRecDepth 100000 in
theorem vc_X7_refuse_0 {kd : Nat → Nat} {K : zK} {X : zX} (hX : ∀ (n pc : Nat) (ls : zLS) (st : List zV) (M : zM), zrun (tb_X7_refuse kd K) [] n X pc ls st M → X pc ls st M) {w : Int32} {M : zM} (hk0 : kd 0 = 1) (h : ∀ v1 : Int32, (v1 = zp ((0 : Int32).toInt ≤ ((-2 : Int32) - w).toInt ∧ ((-2 : Int32) - w).toInt ≤ (2 : Int32).toInt)) → ((v1 = 0) → K (some (zI (w))) M) ∧ ((¬ v1 = 0) → (zin (kd 0) 2 0 ((-2 : Int32) - w)) ∧ (zin (kd 0) 2 0 ((-2 : Int32) - w)) ∧ ∀ M2 : zM, (M2 = zmw M 0 2 (upd (M.1 0 2) ((-2 : Int32) - w).toNatClampNeg ((M.1 0 2 ((-2 : Int32) - w).toNatClampNeg) + (1 : Int32)))) → K (some (zI (w))) M2)) : X 0 [some (zR 0 0), some (zI (w)), none] [] M := hX 20 0 _ [] M (show ∀ v1 : Int32, (v1 = zp ((0 : Int32).toInt ≤ ((-2 : Int32) - w).toInt ∧ ((-2 : Int32) - w).toInt ≤ (2 : Int32).toInt)) → ((v1 = 0) → K (some (zI (w))) M) ∧ ((¬ v1 = 0) → (kd 0 = 1) ∧ (zin (kd 0) 2 0 ((-2 : Int32) - w)) ∧ (zin (kd 0) 2 0 ((-2 : Int32) - w)) ∧ ∀ M2 : zM, (M2 = zmw M 0 2 (upd (M.1 0 2) ((-2 : Int32) - w).toNatClampNeg ((M.1 0 2 ((-2 : Int32) - w).toNatClampNeg) + (1 : Int32)))) → K (some (zI (w))) M2) from fun v1 => have h := h v1; fun q => have h := h q; ⟨fun q => have h := h.1 q; h, fun q => have h := h.2 q; ⟨hk0, ⟨h.1, have h := h.2; ⟨h.1, have h := h.2; fun M2 => have h := h M2; fun q => have h := h q; h⟩⟩⟩⟩)
def sp_X7_roll : zSpec := fun kd as M K => match as with
  | [.inr (.inr (.inl (0, 0)))] => (kd 0 = 1) ∧ (KdX kd) ∧ ∃ s : St, (RpX kd M s) ∧ ∀ v : Int32, (v.toInt = (ev_roll s).1) → ∀ M' : zM, (RpX kd M' (ev_roll s).2) → (fr9 M M') → K (some (.inl v)) M'
  | _ => False
theorem rv_X7_roll : zrv sp_X7_roll 1 0 := by
  intro kd as M K h
  unfold sp_X7_roll at h
  split at h
  · exact ⟨_, _, rfl, h.1⟩
  · exact h.elim
theorem dd_X7_roll_0 : decode cX7_roll 0 = .ok (.aload_n 0, 1) := by decide +kernel
theorem dd_X7_roll_1 : decode cX7_roll 1 = .ok (.getfield 12, 3) := by decide +kernel
theorem dd_X7_roll_4 : decode cX7_roll 4 = .ok (.getfield 52, 3) := by decide +kernel
theorem dd_X7_roll_7 : decode cX7_roll 7 = .ok (.invokevirtual 55, 3) := by decide +kernel
theorem dd_X7_roll_10 : decode cX7_roll 10 = .ok (.istore_n 1, 1) := by decide +kernel
theorem dd_X7_roll_11 : decode cX7_roll 11 = .ok (.aload_n 0, 1) := by decide +kernel
theorem dd_X7_roll_12 : decode cX7_roll 12 = .ok (.getfield 12, 3) := by decide +kernel
theorem dd_X7_roll_15 : decode cX7_roll 15 = .ok (.invokevirtual 59, 3) := by decide +kernel
theorem dd_X7_roll_18 : decode cX7_roll 18 = .ok (.iload_n 1, 1) := by decide +kernel
theorem dd_X7_roll_19 : decode cX7_roll 19 = .ok (.ireturn, 1) := by decide +kernel
def tb_X7_roll (kd : Nat → Nat) (K : zK) : zTab := [(0, zt_aload 0 1), (1, zt_getR kd 1 1 0 4), (4, zt_getR kd 2 1 0 7), (7, zt_call kd sp_X3_layersInAll 1 10), (10, zt_istore 1 11), (11, zt_aload 0 12), (12, zt_getR kd 1 1 0 15), (15, zt_call kd sp_X2_wipe 1 18), (18, zt_iload 1 19), (19, zt_iret K)]
set_option maxRecDepth 20000 in
theorem tk_X7_roll (d : Nat) (h_X3_layersInAll : zMS 1 yX3_layersInAll cX3_layersInAll 3 (some .int) sp_X3_layersInAll) (h_X2_wipe : zMS 2 yX2_wipe cX2_wipe 1 none sp_X2_wipe) : zTrue RX7 cX7_roll 2 (some .int) (d + 3) (fun kd K => tb_X7_roll kd K) := by
  intro p l e R s m args below meth c D cy A ad bl Qm K C0 hr hlocks hQ
  obtain ⟨hx, hb, hml, hown, hts, hK, hD, hA0, hN, hE, ⟨hR1, hR2⟩, hc1, hc2⟩ := id C0
  unfold tb_X7_roll
  refine List.forall_mem_cons.mpr ⟨ok_aload_n hx hb rfl dd_X7_roll_0, ?_⟩
  refine List.forall_mem_cons.mpr ⟨ok_getR (j := 0) hx hb hts zi_X7 hown hK zc_X7 (by decide) rfl (fun t fl h => by cases h; rfl) (hts _ wd_271) dd_X7_roll_1, ?_⟩
  refine List.forall_mem_cons.mpr ⟨ok_getRN (j := 0) hx hb hts zi_X2 hown hK zc_X2 (by decide) rfl (fun t fl h => by cases h; rfl) (va_Nw.use rfl (hN _ nd_201)) dd_X7_roll_4, ?_⟩
  refine List.forall_mem_cons.mpr ⟨ok_callVN (n := 0) zc_X3 rv_X3_layersInAll C0 (h_X3_layersInAll (d + 2) (by omega)) (by decide) wd_303 nd_300 wd_302 wd_0 wd_102 ⟨by decide +kernel, by decide +kernel, by decide +kernel⟩ dd_X7_roll_7, ?_⟩
  refine List.forall_mem_cons.mpr ⟨ok_istore_n hx hb rfl dd_X7_roll_10, ?_⟩
  refine List.forall_mem_cons.mpr ⟨ok_aload_n hx hb rfl dd_X7_roll_11, ?_⟩
  refine List.forall_mem_cons.mpr ⟨ok_getR (j := 0) hx hb hts zi_X7 hown hK zc_X7 (by decide) rfl (fun t fl h => by cases h; rfl) (hts _ wd_271) dd_X7_roll_12, ?_⟩
  refine List.forall_mem_cons.mpr ⟨ok_callVN (n := 0) zc_X2 rv_X2_wipe C0 (h_X2_wipe (d + 2) (by omega)) (by decide) wd_307 nd_304 wd_306 wd_1 wd_101 ⟨by decide +kernel, by decide +kernel, by decide +kernel⟩ dd_X7_roll_15, ?_⟩
  refine List.forall_mem_cons.mpr ⟨ok_iload_n hx hb rfl dd_X7_roll_18, ?_⟩
  refine List.forall_mem_cons.mpr ⟨ok_iret hx hb hr hlocks hQ dd_X7_roll_19, ?_⟩
  exact fun _ h => absurd h List.not_mem_nil
set_option maxRecDepth 100000 in
theorem vc_X7_roll_0 {kd : Nat → Nat} {K : zK} {X : zX} (hX : ∀ (n pc : Nat) (ls : zLS) (st : List zV) (M : zM), zrun (tb_X7_roll kd K) [] n X pc ls st M → X pc ls st M)  {M : zM} (hk0 : kd (1 + 3) = 5) (hk1 : kd (1 + 2) = 4) (hk2 : kd (1 + 1) = 3) (hk3 : kd 1 = 2) (hk4 : kd 0 = 1) (hk5 : kd 2 = 3) (h : ∃ a1 : Sk, (RpS (M.1 2) a1) ∧ ∀ v1 : Int32, (v1.toInt = sk_all a1) → ∀ S12 : zB, (RpS S12 sk_0) → ∀ S22 : zB, (RpT S22 []) → ∀ S32 : zB, (RpL S32 []) → ∀ M2 : zM, (M2 = zbs (zbs (zbs M (1 + 1) S12) (1 + 2) S22) (1 + 3) S32) → K (some (zI (v1))) M2) : X 0 [some (zR 0 0), none] [] M := hX 11 0 _ [] M (show (kd 0 = 1) ∧ (kd 1 = 2) ∧ (kd 2 = 3) ∧ ∃ a1 : Sk, (RpS (M.1 2) a1) ∧ ∀ v1 : Int32, (v1.toInt = sk_all a1) → (kd 0 = 1) ∧ (kd 1 = 2) ∧ (kd (1 + 1) = 3) ∧ (kd (1 + 2) = 4) ∧ (kd (1 + 3) = 5) ∧ ∀ S12 : zB, (RpS S12 sk_0) → ∀ S22 : zB, (RpT S22 []) → ∀ S32 : zB, (RpL S32 []) → ∀ M2 : zM, (M2 = zbs (zbs (zbs M (1 + 1) S12) (1 + 2) S22) (1 + 3) S32) → K (some (zI (v1))) M2 from ⟨hk4, ⟨hk3, ⟨hk5, h.elim (fun a1 h => ⟨a1, ⟨h.1, have h := h.2; fun v1 => have h := h v1; fun q => have h := h q; ⟨hk4, ⟨hk3, ⟨hk2, ⟨hk1, ⟨hk0, fun S12 => have h := h S12; fun q => have h := h q; fun S22 => have h := h S22; fun q => have h := h q; fun S32 => have h := h S32; fun q => have h := h q; fun M2 => have h := h M2; fun q => have h := h q; h⟩⟩⟩⟩⟩⟩⟩)⟩⟩⟩)
def sp_X7_write : zSpec := fun kd as M K => match as with
  | [.inr (.inr (.inl (0, 0))), .inl c, .inl k, .inl g, .inl e] => (kd 0 = 1) ∧ (KdX kd) ∧ ∃ s : St, (RpX kd M s) ∧ ∀ v : Int32, (v.toInt = (ev_write s c.toInt k.toInt g.toInt e.toInt).1) → ∀ M' : zM, (RpX kd M' (ev_write s c.toInt k.toInt g.toInt e.toInt).2) → (fr9 M M') → K (some (.inl v)) M'
  | _ => False
theorem rv_X7_write : zrv sp_X7_write 1 4 := by
  intro kd as M K h
  unfold sp_X7_write at h
  split at h
  · exact ⟨_, _, rfl, h.1⟩
  · exact h.elim
theorem dd_X7_write_0 : decode cX7_write 0 = .ok (.iload_n 1, 1) := by decide +kernel
theorem dd_X7_write_1 : decode cX7_write 1 = .ok (.invokestatic 62, 3) := by decide +kernel
theorem dd_X7_write_4 : decode cX7_write 4 = .ok (.ifCond .eq 29, 3) := by decide +kernel
theorem dd_X7_write_7 : decode cX7_write 7 = .ok (.iload_n 2, 1) := by decide +kernel
theorem dd_X7_write_8 : decode cX7_write 8 = .ok (.iconst 0, 1) := by decide +kernel
theorem dd_X7_write_9 : decode cX7_write 9 = .ok (.iconst 5, 1) := by decide +kernel
theorem dd_X7_write_10 : decode cX7_write 10 = .ok (.invokestatic 66, 3) := by decide +kernel
theorem dd_X7_write_13 : decode cX7_write 13 = .ok (.ifCond .eq 20, 3) := by decide +kernel
theorem dd_X7_write_16 : decode cX7_write 16 = .ok (.iload_n 3, 1) := by decide +kernel
theorem dd_X7_write_17 : decode cX7_write 17 = .ok (.invokestatic 70, 3) := by decide +kernel
theorem dd_X7_write_20 : decode cX7_write 20 = .ok (.ifCond .eq 13, 3) := by decide +kernel
theorem dd_X7_write_23 : decode cX7_write 23 = .ok (.iload 4, 2) := by decide +kernel
theorem dd_X7_write_25 : decode cX7_write 25 = .ok (.iconst 0, 1) := by decide +kernel
theorem dd_X7_write_26 : decode cX7_write 26 = .ok (.iconst 1, 1) := by decide +kernel
theorem dd_X7_write_27 : decode cX7_write 27 = .ok (.invokestatic 66, 3) := by decide +kernel
theorem dd_X7_write_30 : decode cX7_write 30 = .ok (.ifCond .ne 10, 3) := by decide +kernel
theorem dd_X7_write_33 : decode cX7_write 33 = .ok (.aload_n 0, 1) := by decide +kernel
theorem dd_X7_write_34 : decode cX7_write 34 = .ok (.bipush (-2), 2) := by decide +kernel
theorem dd_X7_write_36 : decode cX7_write 36 = .ok (.invokevirtual 73, 3) := by decide +kernel
theorem dd_X7_write_39 : decode cX7_write 39 = .ok (.ireturn, 1) := by decide +kernel
theorem dd_X7_write_40 : decode cX7_write 40 = .ok (.aload_n 0, 1) := by decide +kernel
theorem dd_X7_write_41 : decode cX7_write 41 = .ok (.getfield 12, 3) := by decide +kernel
theorem dd_X7_write_44 : decode cX7_write 44 = .ok (.getfield 52, 3) := by decide +kernel
theorem dd_X7_write_47 : decode cX7_write 47 = .ok (.iload_n 1, 1) := by decide +kernel
theorem dd_X7_write_48 : decode cX7_write 48 = .ok (.invokevirtual 77, 3) := by decide +kernel
theorem dd_X7_write_51 : decode cX7_write 51 = .ok (.ifCond .eq 10, 3) := by decide +kernel
theorem dd_X7_write_54 : decode cX7_write 54 = .ok (.aload_n 0, 1) := by decide +kernel
theorem dd_X7_write_55 : decode cX7_write 55 = .ok (.bipush (-3), 2) := by decide +kernel
theorem dd_X7_write_57 : decode cX7_write 57 = .ok (.invokevirtual 73, 3) := by decide +kernel
theorem dd_X7_write_60 : decode cX7_write 60 = .ok (.ireturn, 1) := by decide +kernel
theorem dd_X7_write_61 : decode cX7_write 61 = .ok (.aload_n 0, 1) := by decide +kernel
theorem dd_X7_write_62 : decode cX7_write 62 = .ok (.getfield 12, 3) := by decide +kernel
theorem dd_X7_write_65 : decode cX7_write 65 = .ok (.getfield 52, 3) := by decide +kernel
theorem dd_X7_write_68 : decode cX7_write 68 = .ok (.iload_n 1, 1) := by decide +kernel
theorem dd_X7_write_69 : decode cX7_write 69 = .ok (.invokevirtual 80, 3) := by decide +kernel
theorem dd_X7_write_72 : decode cX7_write 72 = .ok (.ifCond .ne 10, 3) := by decide +kernel
theorem dd_X7_write_75 : decode cX7_write 75 = .ok (.aload_n 0, 1) := by decide +kernel
theorem dd_X7_write_76 : decode cX7_write 76 = .ok (.bipush (-4), 2) := by decide +kernel
theorem dd_X7_write_78 : decode cX7_write 78 = .ok (.invokevirtual 73, 3) := by decide +kernel
theorem dd_X7_write_81 : decode cX7_write 81 = .ok (.ireturn, 1) := by decide +kernel
theorem dd_X7_write_82 : decode cX7_write 82 = .ok (.aload_n 0, 1) := by decide +kernel
theorem dd_X7_write_83 : decode cX7_write 83 = .ok (.getfield 12, 3) := by decide +kernel
theorem dd_X7_write_86 : decode cX7_write 86 = .ok (.getfield 83, 3) := by decide +kernel
theorem dd_X7_write_89 : decode cX7_write 89 = .ok (.bipush 10, 2) := by decide +kernel
theorem dd_X7_write_91 : decode cX7_write 91 = .ok (.iload_n 1, 1) := by decide +kernel
theorem dd_X7_write_92 : decode cX7_write 92 = .ok (.iadd, 1) := by decide +kernel
theorem dd_X7_write_93 : decode cX7_write 93 = .ok (.invokevirtual 87, 3) := by decide +kernel
theorem dd_X7_write_96 : decode cX7_write 96 = .ok (.aload_n 0, 1) := by decide +kernel
theorem dd_X7_write_97 : decode cX7_write 97 = .ok (.getfield 12, 3) := by decide +kernel
theorem dd_X7_write_100 : decode cX7_write 100 = .ok (.getfield 52, 3) := by decide +kernel
theorem dd_X7_write_103 : decode cX7_write 103 = .ok (.iload_n 1, 1) := by decide +kernel
theorem dd_X7_write_104 : decode cX7_write 104 = .ok (.iload_n 2, 1) := by decide +kernel
theorem dd_X7_write_105 : decode cX7_write 105 = .ok (.iload_n 3, 1) := by decide +kernel
theorem dd_X7_write_106 : decode cX7_write 106 = .ok (.iload 4, 2) := by decide +kernel
theorem dd_X7_write_108 : decode cX7_write 108 = .ok (.invokevirtual 93, 3) := by decide +kernel
theorem dd_X7_write_111 : decode cX7_write 111 = .ok (.ireturn, 1) := by decide +kernel
def tb_X7_write (kd : Nat → Nat) (K : zK) : zTab := [(0, zt_iload 1 1), (1, zt_call kd sp_X7_isCell 1 4), (4, zt_if (fun x => x = 0) (fun x => ¬ x = 0) 33 7), (7, zt_iload 2 8), (8, zt_const (zI 0) 9), (9, zt_const (zI 5) 10), (10, zt_call kd sp_X7_within 3 13), (13, zt_if (fun x => x = 0) (fun x => ¬ x = 0) 33 16), (16, zt_iload 3 17), (17, zt_call kd sp_X7_isThing 1 20), (20, zt_if (fun x => x = 0) (fun x => ¬ x = 0) 33 23), (23, zt_iload 4 25), (25, zt_const (zI 0) 26), (26, zt_const (zI 1) 27), (27, zt_call kd sp_X7_within 3 30), (30, zt_if (fun x => ¬ x = 0) (fun x => x = 0) 40 33), (33, zt_aload 0 34), (34, zt_const (zI (-2)) 36), (36, zt_call kd sp_X7_refuse 2 39), (39, zt_iret K), (40, zt_aload 0 41), (41, zt_getR kd 1 1 0 44), (44, zt_getR kd 2 1 0 47), (47, zt_iload 1 48), (48, zt_call kd sp_X3_canScrape 2 51), (51, zt_if (fun x => x = 0) (fun x => ¬ x = 0) 61 54), (54, zt_aload 0 55), (55, zt_const (zI (-3)) 57), (57, zt_call kd sp_X7_refuse 2 60), (60, zt_iret K), (61, zt_aload 0 62), (62, zt_getR kd 1 1 0 65), (65, zt_getR kd 2 1 0 68), (68, zt_iload 1 69), (69, zt_call kd sp_X3_canCover 2 72), (72, zt_if (fun x => ¬ x = 0) (fun x => x = 0) 82 75), (75, zt_aload 0 76), (76, zt_const (zI (-4)) 78), (78, zt_call kd sp_X7_refuse 2 81), (81, zt_iret K), (82, zt_aload 0 83), (83, zt_getR kd 1 1 0 86), (86, zt_getR kd 2 2 0 89), (89, zt_const (zI 10) 91), (91, zt_iload 1 92), (92, zt_bin (fun x y => x + y) 93), (93, zt_call kd sp_X4_add 2 96), (96, zt_aload 0 97), (97, zt_getR kd 1 1 0 100), (100, zt_getR kd 2 1 0 103), (103, zt_iload 1 104), (104, zt_iload 2 105), (105, zt_iload 3 106), (106, zt_iload 4 108), (108, zt_call kd sp_X3_cover 5 111), (111, zt_iret K)]
set_option maxRecDepth 20000 in
theorem tk_X7_write (d : Nat) (h_X7_isCell : zMS 1 yX7_isCell cX7_isCell 1 (some .boolean) sp_X7_isCell) (h_X7_within : zMS 1 yX7_within cX7_within 3 (some .boolean) sp_X7_within) (h_X7_isThing : zMS 1 yX7_isThing cX7_isThing 1 (some .boolean) sp_X7_isThing) (h_X7_refuse : zMS 2 yX7_refuse cX7_refuse 3 (some .int) sp_X7_refuse) (h_X3_canScrape : zMS 3 yX3_canScrape cX3_canScrape 3 (some .boolean) sp_X3_canScrape) (h_X3_canCover : zMS 3 yX3_canCover cX3_canCover 3 (some .boolean) sp_X3_canCover) (h_X4_add : zMS 1 yX4_add cX4_add 2 none sp_X4_add) (h_X3_cover : zMS 2 yX3_cover cX3_cover 7 (some .int) sp_X3_cover) : zTrue RX7 cX7_write 5 (some .int) (d + 4) (fun kd K => tb_X7_write kd K) := by
  intro p l e R s m args below meth c D cy A ad bl Qm K C0 hr hlocks hQ
  obtain ⟨hx, hb, hml, hown, hts, hK, hD, hA0, hN, hE, ⟨hR1, hR2⟩, hc1, hc2⟩ := id C0
  unfold tb_X7_write
  refine List.forall_mem_cons.mpr ⟨ok_iload_n hx hb rfl dd_X7_write_0, ?_⟩
  refine List.forall_mem_cons.mpr ⟨ok_callS (n := 1) C0 (h_X7_isCell (d + 3) (by omega)) (by decide) wd_318 wd_316 wd_317 wd_100 ⟨by decide +kernel, by decide +kernel, by decide +kernel⟩ dd_X7_write_1, ?_⟩
  refine List.forall_mem_cons.mpr ⟨ok_if_eq hx hb dd_X7_write_4 (by decide), ?_⟩
  refine List.forall_mem_cons.mpr ⟨ok_iload_n hx hb rfl dd_X7_write_7, ?_⟩
  refine List.forall_mem_cons.mpr ⟨ok_iconst hx hb dd_X7_write_8 (by decide), ?_⟩
  refine List.forall_mem_cons.mpr ⟨ok_iconst hx hb dd_X7_write_9 (by decide), ?_⟩
  refine List.forall_mem_cons.mpr ⟨ok_callS (n := 3) C0 (h_X7_within (d + 3) (by omega)) (by decide) wd_321 wd_319 wd_320 wd_100 ⟨by decide +kernel, by decide +kernel, by decide +kernel⟩ dd_X7_write_10, ?_⟩
  refine List.forall_mem_cons.mpr ⟨ok_if_eq hx hb dd_X7_write_13 (by decide), ?_⟩
  refine List.forall_mem_cons.mpr ⟨ok_iload_n hx hb rfl dd_X7_write_16, ?_⟩
  refine List.forall_mem_cons.mpr ⟨ok_callS (n := 1) C0 (h_X7_isThing (d + 3) (by omega)) (by decide) wd_324 wd_322 wd_323 wd_100 ⟨by decide +kernel, by decide +kernel, by decide +kernel⟩ dd_X7_write_17, ?_⟩
  refine List.forall_mem_cons.mpr ⟨ok_if_eq hx hb dd_X7_write_20 (by decide), ?_⟩
  refine List.forall_mem_cons.mpr ⟨ok_iload hx hb dd_X7_write_23, ?_⟩
  refine List.forall_mem_cons.mpr ⟨ok_iconst hx hb dd_X7_write_25 (by decide), ?_⟩
  refine List.forall_mem_cons.mpr ⟨ok_iconst hx hb dd_X7_write_26 (by decide), ?_⟩
  refine List.forall_mem_cons.mpr ⟨ok_callS (n := 3) C0 (h_X7_within (d + 3) (by omega)) (by decide) wd_321 wd_319 wd_320 wd_100 ⟨by decide +kernel, by decide +kernel, by decide +kernel⟩ dd_X7_write_27, ?_⟩
  refine List.forall_mem_cons.mpr ⟨ok_if_ne hx hb dd_X7_write_30 (by decide), ?_⟩
  refine List.forall_mem_cons.mpr ⟨ok_aload_n hx hb rfl dd_X7_write_33, ?_⟩
  refine List.forall_mem_cons.mpr ⟨ok_bipush hx hb dd_X7_write_34 (by decide), ?_⟩
  refine List.forall_mem_cons.mpr ⟨ok_callV (n := 1) zc_X7 rv_X7_refuse C0 (h_X7_refuse (d + 3) (by omega)) (by decide) wd_328 wd_325 wd_327 wd_3 wd_100 ⟨rfl, by decide +kernel, by decide +kernel, by decide +kernel⟩ dd_X7_write_36, ?_⟩
  refine List.forall_mem_cons.mpr ⟨ok_iret hx hb hr hlocks hQ dd_X7_write_39, ?_⟩
  refine List.forall_mem_cons.mpr ⟨ok_aload_n hx hb rfl dd_X7_write_40, ?_⟩
  refine List.forall_mem_cons.mpr ⟨ok_getR (j := 0) hx hb hts zi_X7 hown hK zc_X7 (by decide) rfl (fun t fl h => by cases h; rfl) (hts _ wd_271) dd_X7_write_41, ?_⟩
  refine List.forall_mem_cons.mpr ⟨ok_getRN (j := 0) hx hb hts zi_X2 hown hK zc_X2 (by decide) rfl (fun t fl h => by cases h; rfl) (va_Nw.use rfl (hN _ nd_201)) dd_X7_write_44, ?_⟩
  refine List.forall_mem_cons.mpr ⟨ok_iload_n hx hb rfl dd_X7_write_47, ?_⟩
  refine List.forall_mem_cons.mpr ⟨ok_callVN (n := 1) zc_X3 rv_X3_canScrape C0 (h_X3_canScrape (d + 3) (by omega)) (by decide) wd_332 nd_329 wd_331 wd_4 wd_102 ⟨by decide +kernel, by decide +kernel, by decide +kernel⟩ dd_X7_write_48, ?_⟩
  refine List.forall_mem_cons.mpr ⟨ok_if_eq hx hb dd_X7_write_51 (by decide), ?_⟩
  refine List.forall_mem_cons.mpr ⟨ok_aload_n hx hb rfl dd_X7_write_54, ?_⟩
  refine List.forall_mem_cons.mpr ⟨ok_bipush hx hb dd_X7_write_55 (by decide), ?_⟩
  refine List.forall_mem_cons.mpr ⟨ok_callV (n := 1) zc_X7 rv_X7_refuse C0 (h_X7_refuse (d + 3) (by omega)) (by decide) wd_328 wd_325 wd_327 wd_3 wd_100 ⟨rfl, by decide +kernel, by decide +kernel, by decide +kernel⟩ dd_X7_write_57, ?_⟩
  refine List.forall_mem_cons.mpr ⟨ok_iret hx hb hr hlocks hQ dd_X7_write_60, ?_⟩
  refine List.forall_mem_cons.mpr ⟨ok_aload_n hx hb rfl dd_X7_write_61, ?_⟩
  refine List.forall_mem_cons.mpr ⟨ok_getR (j := 0) hx hb hts zi_X7 hown hK zc_X7 (by decide) rfl (fun t fl h => by cases h; rfl) (hts _ wd_271) dd_X7_write_62, ?_⟩
  refine List.forall_mem_cons.mpr ⟨ok_getRN (j := 0) hx hb hts zi_X2 hown hK zc_X2 (by decide) rfl (fun t fl h => by cases h; rfl) (va_Nw.use rfl (hN _ nd_201)) dd_X7_write_65, ?_⟩
  refine List.forall_mem_cons.mpr ⟨ok_iload_n hx hb rfl dd_X7_write_68, ?_⟩
  refine List.forall_mem_cons.mpr ⟨ok_callVN (n := 1) zc_X3 rv_X3_canCover C0 (h_X3_canCover (d + 3) (by omega)) (by decide) wd_345 nd_342 wd_344 wd_7 wd_102 ⟨by decide +kernel, by decide +kernel, by decide +kernel⟩ dd_X7_write_69, ?_⟩
  refine List.forall_mem_cons.mpr ⟨ok_if_ne hx hb dd_X7_write_72 (by decide), ?_⟩
  refine List.forall_mem_cons.mpr ⟨ok_aload_n hx hb rfl dd_X7_write_75, ?_⟩
  refine List.forall_mem_cons.mpr ⟨ok_bipush hx hb dd_X7_write_76 (by decide), ?_⟩
  refine List.forall_mem_cons.mpr ⟨ok_callV (n := 1) zc_X7 rv_X7_refuse C0 (h_X7_refuse (d + 3) (by omega)) (by decide) wd_328 wd_325 wd_327 wd_3 wd_100 ⟨rfl, by decide +kernel, by decide +kernel, by decide +kernel⟩ dd_X7_write_78, ?_⟩
  refine List.forall_mem_cons.mpr ⟨ok_iret hx hb hr hlocks hQ dd_X7_write_81, ?_⟩
  refine List.forall_mem_cons.mpr ⟨ok_aload_n hx hb rfl dd_X7_write_82, ?_⟩
  refine List.forall_mem_cons.mpr ⟨ok_getR (j := 0) hx hb hts zi_X7 hown hK zc_X7 (by decide) rfl (fun t fl h => by cases h; rfl) (hts _ wd_271) dd_X7_write_83, ?_⟩
  refine List.forall_mem_cons.mpr ⟨ok_getRN (j := 1) hx hb hts zi_X2 hown hK zc_X2 (by decide) rfl (fun t fl h => by cases h; rfl) (va_Nw.use rfl (hN _ nd_203)) dd_X7_write_86, ?_⟩
  refine List.forall_mem_cons.mpr ⟨ok_bipush hx hb dd_X7_write_89 (by decide), ?_⟩
  refine List.forall_mem_cons.mpr ⟨ok_iload_n hx hb rfl dd_X7_write_91, ?_⟩
  refine List.forall_mem_cons.mpr ⟨ok_iadd hx hb dd_X7_write_92, ?_⟩
  refine List.forall_mem_cons.mpr ⟨ok_callVN (n := 1) zc_X4 rv_X4_add C0 (h_X4_add (d + 3) (by omega)) (by decide) wd_349 nd_346 wd_348 wd_8 wd_103 ⟨by decide +kernel, by decide +kernel, by decide +kernel⟩ dd_X7_write_93, ?_⟩
  refine List.forall_mem_cons.mpr ⟨ok_aload_n hx hb rfl dd_X7_write_96, ?_⟩
  refine List.forall_mem_cons.mpr ⟨ok_getR (j := 0) hx hb hts zi_X7 hown hK zc_X7 (by decide) rfl (fun t fl h => by cases h; rfl) (hts _ wd_271) dd_X7_write_97, ?_⟩
  refine List.forall_mem_cons.mpr ⟨ok_getRN (j := 0) hx hb hts zi_X2 hown hK zc_X2 (by decide) rfl (fun t fl h => by cases h; rfl) (va_Nw.use rfl (hN _ nd_201)) dd_X7_write_100, ?_⟩
  refine List.forall_mem_cons.mpr ⟨ok_iload_n hx hb rfl dd_X7_write_103, ?_⟩
  refine List.forall_mem_cons.mpr ⟨ok_iload_n hx hb rfl dd_X7_write_104, ?_⟩
  refine List.forall_mem_cons.mpr ⟨ok_iload_n hx hb rfl dd_X7_write_105, ?_⟩
  refine List.forall_mem_cons.mpr ⟨ok_iload hx hb dd_X7_write_106, ?_⟩
  refine List.forall_mem_cons.mpr ⟨ok_callVN (n := 4) zc_X3 rv_X3_cover C0 (h_X3_cover (d + 3) (by omega)) (by decide) wd_356 nd_353 wd_355 wd_9 wd_102 ⟨by decide +kernel, by decide +kernel, by decide +kernel⟩ dd_X7_write_108, ?_⟩
  refine List.forall_mem_cons.mpr ⟨ok_iret hx hb hr hlocks hQ dd_X7_write_111, ?_⟩
  exact fun _ h => absurd h List.not_mem_nil
set_option maxRecDepth 100000 in
theorem vc_X7_write_0 {kd : Nat → Nat} {K : zK} {X : zX} (hX : ∀ (n pc : Nat) (ls : zLS) (st : List zV) (M : zM), zrun (tb_X7_write kd K) [] n X pc ls st M → X pc ls st M) {c : Int32} {k : Int32} {g : Int32} {e : Int32} {M : zM} (hk0 : kd 0 = 1) (hk1 : kd 2 = 3) (hk2 : kd 1 = 2) (hk3 : kd 3 = 4) (h : ∀ v1 : Int32, (v1 = zp (0 ≤ c.toInt ∧ c.toInt < 6)) → ((v1 = 0) → ∃ s2 : St, (RpX kd M s2) ∧ ∃ k2 : Nat, (k2 < 3 ∧ (-2 : Int32).toInt = -2 - (k2 : Int)) ∧ ∀ v2 : Int32, (v2 = (-2 : Int32)) → ∀ M2 : zM, (RpX kd M2 (sRf s2 k2)) → (fr9 M M2) → K (some (zI (v2))) M2) ∧ ((¬ v1 = 0) → ∀ v3 : Int32, (v3 = zp ((0 : Int32).toInt ≤ k.toInt ∧ k.toInt ≤ (5 : Int32).toInt)) → ((v3 = 0) → ∃ s4 : St, (RpX kd M s4) ∧ ∃ k4 : Nat, (k4 < 3 ∧ (-2 : Int32).toInt = -2 - (k4 : Int)) ∧ ∀ v4 : Int32, (v4 = (-2 : Int32)) → ∀ M4 : zM, (RpX kd M4 (sRf s4 k4)) → (fr9 M M4) → K (some (zI (v4))) M4) ∧ ((¬ v3 = 0) → ∀ v5 : Int32, (v5 = zp (isT g.toInt)) → ((v5 = 0) → ∃ s6 : St, (RpX kd M s6) ∧ ∃ k6 : Nat, (k6 < 3 ∧ (-2 : Int32).toInt = -2 - (k6 : Int)) ∧ ∀ v6 : Int32, (v6 = (-2 : Int32)) → ∀ M6 : zM, (RpX kd M6 (sRf s6 k6)) → (fr9 M M6) → K (some (zI (v6))) M6) ∧ ((¬ v5 = 0) → ∀ v7 : Int32, (v7 = zp ((0 : Int32).toInt ≤ e.toInt ∧ e.toInt ≤ (1 : Int32).toInt)) → ((¬ v7 = 0) → ∃ a8 : Sk, (RpS (M.1 2) a8) ∧ ∀ v8 : Int32, (v8 = zp (sk_canR a8 c.toInt = true)) → ((v8 = 0) → ∃ a9 : Sk, (RpS (M.1 2) a9) ∧ ∀ v9 : Int32, (v9 = zp (sk_canW a9 c.toInt = true)) → ((¬ v9 = 0) → ∃ L10 : List Int, (RpT (M.1 3) L10) ∧ ∀ S10 : zB, (RpT S10 (stAdd L10 ((10 : Int32) + c).toInt)) → ∀ M10 : zM, (M10 = zbs M 3 S10) → ∃ a11 : Sk, (RpS (M10.1 2) a11) ∧ (0 ≤ c.toInt ∧ c.toInt < 6) ∧ (sk_canR a11 c.toInt = false) ∧ (0 ≤ k.toInt ∧ k.toInt ≤ 5) ∧ (0 ≤ g.toInt ∧ g.toInt ≤ 4) ∧ (e.toInt = 0 ∨ e.toInt = 1) ∧ ∀ v11 : Int32, (v11.toInt = if sk_len a11 c.toInt < 4 then sk_len a11 c.toInt else -1) → ∀ S11 : zB, (RpS S11 (sk_wr a11 c.toInt k.toInt g.toInt e.toInt)) → ∀ M11 : zM, (M11 = zbs M10 2 S11) → K (some (zI (v11))) M11) ∧ ((v9 = 0) → ∃ s12 : St, (RpX kd M s12) ∧ ∃ k12 : Nat, (k12 < 3 ∧ (-4 : Int32).toInt = -2 - (k12 : Int)) ∧ ∀ v12 : Int32, (v12 = (-4 : Int32)) → ∀ M12 : zM, (RpX kd M12 (sRf s12 k12)) → (fr9 M M12) → K (some (zI (v12))) M12)) ∧ ((¬ v8 = 0) → ∃ s13 : St, (RpX kd M s13) ∧ ∃ k13 : Nat, (k13 < 3 ∧ (-3 : Int32).toInt = -2 - (k13 : Int)) ∧ ∀ v13 : Int32, (v13 = (-3 : Int32)) → ∀ M13 : zM, (RpX kd M13 (sRf s13 k13)) → (fr9 M M13) → K (some (zI (v13))) M13)) ∧ ((v7 = 0) → ∃ s14 : St, (RpX kd M s14) ∧ ∃ k14 : Nat, (k14 < 3 ∧ (-2 : Int32).toInt = -2 - (k14 : Int)) ∧ ∀ v14 : Int32, (v14 = (-2 : Int32)) → ∀ M14 : zM, (RpX kd M14 (sRf s14 k14)) → (fr9 M M14) → K (some (zI (v14))) M14))))) : X 0 [some (zR 0 0), some (zI (c)), some (zI (k)), some (zI (g)), some (zI (e))] [] M := hX 45 0 _ [] M (show ∀ v1 : Int32, (v1 = zp (0 ≤ c.toInt ∧ c.toInt < 6)) → ((v1 = 0) → (kd 0 = 1) ∧ ∃ s2 : St, (RpX kd M s2) ∧ ∃ k2 : Nat, (k2 < 3 ∧ (-2 : Int32).toInt = -2 - (k2 : Int)) ∧ ∀ v2 : Int32, (v2 = (-2 : Int32)) → ∀ M2 : zM, (RpX kd M2 (sRf s2 k2)) → (fr9 M M2) → K (some (zI (v2))) M2) ∧ ((¬ v1 = 0) → ∀ v3 : Int32, (v3 = zp ((0 : Int32).toInt ≤ k.toInt ∧ k.toInt ≤ (5 : Int32).toInt)) → ((v3 = 0) → (kd 0 = 1) ∧ ∃ s4 : St, (RpX kd M s4) ∧ ∃ k4 : Nat, (k4 < 3 ∧ (-2 : Int32).toInt = -2 - (k4 : Int)) ∧ ∀ v4 : Int32, (v4 = (-2 : Int32)) → ∀ M4 : zM, (RpX kd M4 (sRf s4 k4)) → (fr9 M M4) → K (some (zI (v4))) M4) ∧ ((¬ v3 = 0) → ∀ v5 : Int32, (v5 = zp (isT g.toInt)) → ((v5 = 0) → (kd 0 = 1) ∧ ∃ s6 : St, (RpX kd M s6) ∧ ∃ k6 : Nat, (k6 < 3 ∧ (-2 : Int32).toInt = -2 - (k6 : Int)) ∧ ∀ v6 : Int32, (v6 = (-2 : Int32)) → ∀ M6 : zM, (RpX kd M6 (sRf s6 k6)) → (fr9 M M6) → K (some (zI (v6))) M6) ∧ ((¬ v5 = 0) → ∀ v7 : Int32, (v7 = zp ((0 : Int32).toInt ≤ e.toInt ∧ e.toInt ≤ (1 : Int32).toInt)) → ((¬ v7 = 0) → (kd 0 = 1) ∧ (kd 1 = 2) ∧ (kd 2 = 3) ∧ ∃ a8 : Sk, (RpS (M.1 2) a8) ∧ ∀ v8 : Int32, (v8 = zp (sk_canR a8 c.toInt = true)) → ((v8 = 0) → (kd 0 = 1) ∧ (kd 1 = 2) ∧ (kd 2 = 3) ∧ ∃ a9 : Sk, (RpS (M.1 2) a9) ∧ ∀ v9 : Int32, (v9 = zp (sk_canW a9 c.toInt = true)) → ((¬ v9 = 0) → (kd 0 = 1) ∧ (kd 1 = 2) ∧ (kd 3 = 4) ∧ ∃ L10 : List Int, (RpT (M.1 3) L10) ∧ ∀ S10 : zB, (RpT S10 (stAdd L10 ((10 : Int32) + c).toInt)) → ∀ M10 : zM, (M10 = zbs M 3 S10) → (kd 0 = 1) ∧ (kd 1 = 2) ∧ (kd 2 = 3) ∧ ∃ a11 : Sk, (RpS (M10.1 2) a11) ∧ (0 ≤ c.toInt ∧ c.toInt < 6) ∧ (sk_canR a11 c.toInt = false) ∧ (0 ≤ k.toInt ∧ k.toInt ≤ 5) ∧ (0 ≤ g.toInt ∧ g.toInt ≤ 4) ∧ (e.toInt = 0 ∨ e.toInt = 1) ∧ ∀ v11 : Int32, (v11.toInt = if sk_len a11 c.toInt < 4 then sk_len a11 c.toInt else -1) → ∀ S11 : zB, (RpS S11 (sk_wr a11 c.toInt k.toInt g.toInt e.toInt)) → ∀ M11 : zM, (M11 = zbs M10 2 S11) → K (some (zI (v11))) M11) ∧ ((v9 = 0) → (kd 0 = 1) ∧ ∃ s12 : St, (RpX kd M s12) ∧ ∃ k12 : Nat, (k12 < 3 ∧ (-4 : Int32).toInt = -2 - (k12 : Int)) ∧ ∀ v12 : Int32, (v12 = (-4 : Int32)) → ∀ M12 : zM, (RpX kd M12 (sRf s12 k12)) → (fr9 M M12) → K (some (zI (v12))) M12)) ∧ ((¬ v8 = 0) → (kd 0 = 1) ∧ ∃ s13 : St, (RpX kd M s13) ∧ ∃ k13 : Nat, (k13 < 3 ∧ (-3 : Int32).toInt = -2 - (k13 : Int)) ∧ ∀ v13 : Int32, (v13 = (-3 : Int32)) → ∀ M13 : zM, (RpX kd M13 (sRf s13 k13)) → (fr9 M M13) → K (some (zI (v13))) M13)) ∧ ((v7 = 0) → (kd 0 = 1) ∧ ∃ s14 : St, (RpX kd M s14) ∧ ∃ k14 : Nat, (k14 < 3 ∧ (-2 : Int32).toInt = -2 - (k14 : Int)) ∧ ∀ v14 : Int32, (v14 = (-2 : Int32)) → ∀ M14 : zM, (RpX kd M14 (sRf s14 k14)) → (fr9 M M14) → K (some (zI (v14))) M14)))) from fun v1 => have h := h v1; fun q => have h := h q; ⟨fun q => have h := h.1 q; ⟨hk0, h.elim (fun s2 h => ⟨s2, ⟨h.1, have h := h.2; h.elim (fun k2 h => ⟨k2, ⟨h.1, have h := h.2; fun v2 => have h := h v2; fun q => have h := h q; fun M2 => have h := h M2; fun q => have h := h q; fun q => have h := h q; h⟩⟩)⟩⟩)⟩, fun q => have h := h.2 q; fun v3 => have h := h v3; fun q => have h := h q; ⟨fun q => have h := h.1 q; ⟨hk0, h.elim (fun s4 h => ⟨s4, ⟨h.1, have h := h.2; h.elim (fun k4 h => ⟨k4, ⟨h.1, have h := h.2; fun v4 => have h := h v4; fun q => have h := h q; fun M4 => have h := h M4; fun q => have h := h q; fun q => have h := h q; h⟩⟩)⟩⟩)⟩, fun q => have h := h.2 q; fun v5 => have h := h v5; fun q => have h := h q; ⟨fun q => have h := h.1 q; ⟨hk0, h.elim (fun s6 h => ⟨s6, ⟨h.1, have h := h.2; h.elim (fun k6 h => ⟨k6, ⟨h.1, have h := h.2; fun v6 => have h := h v6; fun q => have h := h q; fun M6 => have h := h M6; fun q => have h := h q; fun q => have h := h q; h⟩⟩)⟩⟩)⟩, fun q => have h := h.2 q; fun v7 => have h := h v7; fun q => have h := h q; ⟨fun q => have h := h.1 q; ⟨hk0, ⟨hk2, ⟨hk1, h.elim (fun a8 h => ⟨a8, ⟨h.1, have h := h.2; fun v8 => have h := h v8; fun q => have h := h q; ⟨fun q => have h := h.1 q; ⟨hk0, ⟨hk2, ⟨hk1, h.elim (fun a9 h => ⟨a9, ⟨h.1, have h := h.2; fun v9 => have h := h v9; fun q => have h := h q; ⟨fun q => have h := h.1 q; ⟨hk0, ⟨hk2, ⟨hk3, h.elim (fun L10 h => ⟨L10, ⟨h.1, have h := h.2; fun S10 => have h := h S10; fun q => have h := h q; fun M10 => have h := h M10; fun q => have h := h q; ⟨hk0, ⟨hk2, ⟨hk1, h.elim (fun a11 h => ⟨a11, ⟨h.1, have h := h.2; ⟨h.1, have h := h.2; ⟨h.1, have h := h.2; ⟨h.1, have h := h.2; ⟨h.1, have h := h.2; ⟨h.1, have h := h.2; fun v11 => have h := h v11; fun q => have h := h q; fun S11 => have h := h S11; fun q => have h := h q; fun M11 => have h := h M11; fun q => have h := h q; h⟩⟩⟩⟩⟩⟩⟩)⟩⟩⟩⟩⟩)⟩⟩⟩, fun q => have h := h.2 q; ⟨hk0, h.elim (fun s12 h => ⟨s12, ⟨h.1, have h := h.2; h.elim (fun k12 h => ⟨k12, ⟨h.1, have h := h.2; fun v12 => have h := h v12; fun q => have h := h q; fun M12 => have h := h M12; fun q => have h := h q; fun q => have h := h q; h⟩⟩)⟩⟩)⟩⟩⟩⟩)⟩⟩⟩, fun q => have h := h.2 q; ⟨hk0, h.elim (fun s13 h => ⟨s13, ⟨h.1, have h := h.2; h.elim (fun k13 h => ⟨k13, ⟨h.1, have h := h.2; fun v13 => have h := h v13; fun q => have h := h q; fun M13 => have h := h M13; fun q => have h := h q; fun q => have h := h q; h⟩⟩)⟩⟩)⟩⟩⟩⟩)⟩⟩⟩, fun q => have h := h.2 q; ⟨hk0, h.elim (fun s14 h => ⟨s14, ⟨h.1, have h := h.2; h.elim (fun k14 h => ⟨k14, ⟨h.1, have h := h.2; fun v14 => have h := h v14; fun q => have h := h q; fun M14 => have h := h M14; fun q => have h := h q; fun q => have h := h q; h⟩⟩)⟩⟩)⟩⟩⟩⟩⟩)
def sp_X7_rub : zSpec := fun kd as M K => match as with
  | [.inr (.inr (.inl (0, 0))), .inl c] => (kd 0 = 1) ∧ (KdX kd) ∧ ∃ s : St, (RpX kd M s) ∧ ∀ v : Int32, (v.toInt = (ev_rub s c.toInt).1) → ∀ M' : zM, (RpX kd M' (ev_rub s c.toInt).2) → (fr9 M M') → K (some (.inl v)) M'
  | _ => False
theorem rv_X7_rub : zrv sp_X7_rub 1 1 := by
  intro kd as M K h
  unfold sp_X7_rub at h
  split at h
  · exact ⟨_, _, rfl, h.1⟩
  · exact h.elim
theorem dd_X7_rub_0 : decode cX7_rub 0 = .ok (.iload_n 1, 1) := by decide +kernel
theorem dd_X7_rub_1 : decode cX7_rub 1 = .ok (.invokestatic 62, 3) := by decide +kernel
theorem dd_X7_rub_4 : decode cX7_rub 4 = .ok (.ifCond .ne 10, 3) := by decide +kernel
theorem dd_X7_rub_7 : decode cX7_rub 7 = .ok (.aload_n 0, 1) := by decide +kernel
theorem dd_X7_rub_8 : decode cX7_rub 8 = .ok (.bipush (-2), 2) := by decide +kernel
theorem dd_X7_rub_10 : decode cX7_rub 10 = .ok (.invokevirtual 73, 3) := by decide +kernel
theorem dd_X7_rub_13 : decode cX7_rub 13 = .ok (.ireturn, 1) := by decide +kernel
theorem dd_X7_rub_14 : decode cX7_rub 14 = .ok (.aload_n 0, 1) := by decide +kernel
theorem dd_X7_rub_15 : decode cX7_rub 15 = .ok (.getfield 12, 3) := by decide +kernel
theorem dd_X7_rub_18 : decode cX7_rub 18 = .ok (.getfield 52, 3) := by decide +kernel
theorem dd_X7_rub_21 : decode cX7_rub 21 = .ok (.iload_n 1, 1) := by decide +kernel
theorem dd_X7_rub_22 : decode cX7_rub 22 = .ok (.invokevirtual 77, 3) := by decide +kernel
theorem dd_X7_rub_25 : decode cX7_rub 25 = .ok (.ifCond .ne 10, 3) := by decide +kernel
theorem dd_X7_rub_28 : decode cX7_rub 28 = .ok (.aload_n 0, 1) := by decide +kernel
theorem dd_X7_rub_29 : decode cX7_rub 29 = .ok (.bipush (-3), 2) := by decide +kernel
theorem dd_X7_rub_31 : decode cX7_rub 31 = .ok (.invokevirtual 73, 3) := by decide +kernel
theorem dd_X7_rub_34 : decode cX7_rub 34 = .ok (.ireturn, 1) := by decide +kernel
theorem dd_X7_rub_35 : decode cX7_rub 35 = .ok (.aload_n 0, 1) := by decide +kernel
theorem dd_X7_rub_36 : decode cX7_rub 36 = .ok (.getfield 12, 3) := by decide +kernel
theorem dd_X7_rub_39 : decode cX7_rub 39 = .ok (.getfield 83, 3) := by decide +kernel
theorem dd_X7_rub_42 : decode cX7_rub 42 = .ok (.iload_n 1, 1) := by decide +kernel
theorem dd_X7_rub_43 : decode cX7_rub 43 = .ok (.invokevirtual 87, 3) := by decide +kernel
theorem dd_X7_rub_46 : decode cX7_rub 46 = .ok (.aload_n 0, 1) := by decide +kernel
theorem dd_X7_rub_47 : decode cX7_rub 47 = .ok (.getfield 12, 3) := by decide +kernel
theorem dd_X7_rub_50 : decode cX7_rub 50 = .ok (.getfield 52, 3) := by decide +kernel
theorem dd_X7_rub_53 : decode cX7_rub 53 = .ok (.iload_n 1, 1) := by decide +kernel
theorem dd_X7_rub_54 : decode cX7_rub 54 = .ok (.invokevirtual 97, 3) := by decide +kernel
theorem dd_X7_rub_57 : decode cX7_rub 57 = .ok (.ireturn, 1) := by decide +kernel
def tb_X7_rub (kd : Nat → Nat) (K : zK) : zTab := [(0, zt_iload 1 1), (1, zt_call kd sp_X7_isCell 1 4), (4, zt_if (fun x => ¬ x = 0) (fun x => x = 0) 14 7), (7, zt_aload 0 8), (8, zt_const (zI (-2)) 10), (10, zt_call kd sp_X7_refuse 2 13), (13, zt_iret K), (14, zt_aload 0 15), (15, zt_getR kd 1 1 0 18), (18, zt_getR kd 2 1 0 21), (21, zt_iload 1 22), (22, zt_call kd sp_X3_canScrape 2 25), (25, zt_if (fun x => ¬ x = 0) (fun x => x = 0) 35 28), (28, zt_aload 0 29), (29, zt_const (zI (-3)) 31), (31, zt_call kd sp_X7_refuse 2 34), (34, zt_iret K), (35, zt_aload 0 36), (36, zt_getR kd 1 1 0 39), (39, zt_getR kd 2 2 0 42), (42, zt_iload 1 43), (43, zt_call kd sp_X4_add 2 46), (46, zt_aload 0 47), (47, zt_getR kd 1 1 0 50), (50, zt_getR kd 2 1 0 53), (53, zt_iload 1 54), (54, zt_call kd sp_X3_scrape 2 57), (57, zt_iret K)]
set_option maxRecDepth 20000 in
theorem tk_X7_rub (d : Nat) (h_X7_isCell : zMS 1 yX7_isCell cX7_isCell 1 (some .boolean) sp_X7_isCell) (h_X7_refuse : zMS 2 yX7_refuse cX7_refuse 3 (some .int) sp_X7_refuse) (h_X3_canScrape : zMS 3 yX3_canScrape cX3_canScrape 3 (some .boolean) sp_X3_canScrape) (h_X4_add : zMS 1 yX4_add cX4_add 2 none sp_X4_add) (h_X3_scrape : zMS 3 yX3_scrape cX3_scrape 3 (some .int) sp_X3_scrape) : zTrue RX7 cX7_rub 2 (some .int) (d + 4) (fun kd K => tb_X7_rub kd K) := by
  intro p l e R s m args below meth c D cy A ad bl Qm K C0 hr hlocks hQ
  obtain ⟨hx, hb, hml, hown, hts, hK, hD, hA0, hN, hE, ⟨hR1, hR2⟩, hc1, hc2⟩ := id C0
  unfold tb_X7_rub
  refine List.forall_mem_cons.mpr ⟨ok_iload_n hx hb rfl dd_X7_rub_0, ?_⟩
  refine List.forall_mem_cons.mpr ⟨ok_callS (n := 1) C0 (h_X7_isCell (d + 3) (by omega)) (by decide) wd_318 wd_316 wd_317 wd_100 ⟨by decide +kernel, by decide +kernel, by decide +kernel⟩ dd_X7_rub_1, ?_⟩
  refine List.forall_mem_cons.mpr ⟨ok_if_ne hx hb dd_X7_rub_4 (by decide), ?_⟩
  refine List.forall_mem_cons.mpr ⟨ok_aload_n hx hb rfl dd_X7_rub_7, ?_⟩
  refine List.forall_mem_cons.mpr ⟨ok_bipush hx hb dd_X7_rub_8 (by decide), ?_⟩
  refine List.forall_mem_cons.mpr ⟨ok_callV (n := 1) zc_X7 rv_X7_refuse C0 (h_X7_refuse (d + 3) (by omega)) (by decide) wd_328 wd_325 wd_327 wd_3 wd_100 ⟨rfl, by decide +kernel, by decide +kernel, by decide +kernel⟩ dd_X7_rub_10, ?_⟩
  refine List.forall_mem_cons.mpr ⟨ok_iret hx hb hr hlocks hQ dd_X7_rub_13, ?_⟩
  refine List.forall_mem_cons.mpr ⟨ok_aload_n hx hb rfl dd_X7_rub_14, ?_⟩
  refine List.forall_mem_cons.mpr ⟨ok_getR (j := 0) hx hb hts zi_X7 hown hK zc_X7 (by decide) rfl (fun t fl h => by cases h; rfl) (hts _ wd_271) dd_X7_rub_15, ?_⟩
  refine List.forall_mem_cons.mpr ⟨ok_getRN (j := 0) hx hb hts zi_X2 hown hK zc_X2 (by decide) rfl (fun t fl h => by cases h; rfl) (va_Nw.use rfl (hN _ nd_201)) dd_X7_rub_18, ?_⟩
  refine List.forall_mem_cons.mpr ⟨ok_iload_n hx hb rfl dd_X7_rub_21, ?_⟩
  refine List.forall_mem_cons.mpr ⟨ok_callVN (n := 1) zc_X3 rv_X3_canScrape C0 (h_X3_canScrape (d + 3) (by omega)) (by decide) wd_332 nd_329 wd_331 wd_4 wd_102 ⟨by decide +kernel, by decide +kernel, by decide +kernel⟩ dd_X7_rub_22, ?_⟩
  refine List.forall_mem_cons.mpr ⟨ok_if_ne hx hb dd_X7_rub_25 (by decide), ?_⟩
  refine List.forall_mem_cons.mpr ⟨ok_aload_n hx hb rfl dd_X7_rub_28, ?_⟩
  refine List.forall_mem_cons.mpr ⟨ok_bipush hx hb dd_X7_rub_29 (by decide), ?_⟩
  refine List.forall_mem_cons.mpr ⟨ok_callV (n := 1) zc_X7 rv_X7_refuse C0 (h_X7_refuse (d + 3) (by omega)) (by decide) wd_328 wd_325 wd_327 wd_3 wd_100 ⟨rfl, by decide +kernel, by decide +kernel, by decide +kernel⟩ dd_X7_rub_31, ?_⟩
  refine List.forall_mem_cons.mpr ⟨ok_iret hx hb hr hlocks hQ dd_X7_rub_34, ?_⟩
  refine List.forall_mem_cons.mpr ⟨ok_aload_n hx hb rfl dd_X7_rub_35, ?_⟩
  refine List.forall_mem_cons.mpr ⟨ok_getR (j := 0) hx hb hts zi_X7 hown hK zc_X7 (by decide) rfl (fun t fl h => by cases h; rfl) (hts _ wd_271) dd_X7_rub_36, ?_⟩
  refine List.forall_mem_cons.mpr ⟨ok_getRN (j := 1) hx hb hts zi_X2 hown hK zc_X2 (by decide) rfl (fun t fl h => by cases h; rfl) (va_Nw.use rfl (hN _ nd_203)) dd_X7_rub_39, ?_⟩
  refine List.forall_mem_cons.mpr ⟨ok_iload_n hx hb rfl dd_X7_rub_42, ?_⟩
  refine List.forall_mem_cons.mpr ⟨ok_callVN (n := 1) zc_X4 rv_X4_add C0 (h_X4_add (d + 3) (by omega)) (by decide) wd_349 nd_346 wd_348 wd_8 wd_103 ⟨by decide +kernel, by decide +kernel, by decide +kernel⟩ dd_X7_rub_43, ?_⟩
  refine List.forall_mem_cons.mpr ⟨ok_aload_n hx hb rfl dd_X7_rub_46, ?_⟩
  refine List.forall_mem_cons.mpr ⟨ok_getR (j := 0) hx hb hts zi_X7 hown hK zc_X7 (by decide) rfl (fun t fl h => by cases h; rfl) (hts _ wd_271) dd_X7_rub_47, ?_⟩
  refine List.forall_mem_cons.mpr ⟨ok_getRN (j := 0) hx hb hts zi_X2 hown hK zc_X2 (by decide) rfl (fun t fl h => by cases h; rfl) (va_Nw.use rfl (hN _ nd_201)) dd_X7_rub_50, ?_⟩
  refine List.forall_mem_cons.mpr ⟨ok_iload_n hx hb rfl dd_X7_rub_53, ?_⟩
  refine List.forall_mem_cons.mpr ⟨ok_callVN (n := 1) zc_X3 rv_X3_scrape C0 (h_X3_scrape (d + 3) (by omega)) (by decide) wd_364 nd_361 wd_363 wd_10 wd_102 ⟨by decide +kernel, by decide +kernel, by decide +kernel⟩ dd_X7_rub_54, ?_⟩
  refine List.forall_mem_cons.mpr ⟨ok_iret hx hb hr hlocks hQ dd_X7_rub_57, ?_⟩
  exact fun _ h => absurd h List.not_mem_nil
set_option maxRecDepth 100000 in
theorem vc_X7_rub_0 {kd : Nat → Nat} {K : zK} {X : zX} (hX : ∀ (n pc : Nat) (ls : zLS) (st : List zV) (M : zM), zrun (tb_X7_rub kd K) [] n X pc ls st M → X pc ls st M) {c : Int32} {M : zM} (hk0 : kd 2 = 3) (hk1 : kd 1 = 2) (hk2 : kd 0 = 1) (hk3 : kd 3 = 4) (h : ∀ v1 : Int32, (v1 = zp (0 ≤ c.toInt ∧ c.toInt < 6)) → ((¬ v1 = 0) → ∃ a2 : Sk, (RpS (M.1 2) a2) ∧ ∀ v2 : Int32, (v2 = zp (sk_canR a2 c.toInt = true)) → ((¬ v2 = 0) → ∃ L3 : List Int, (RpT (M.1 3) L3) ∧ ∀ S3 : zB, (RpT S3 (stAdd L3 c.toInt)) → ∀ M3 : zM, (M3 = zbs M 3 S3) → ∃ a4 : Sk, (RpS (M3.1 2) a4) ∧ ∃ l4 : Ly, (sk_top a4 c.toInt = some l4) ∧ (l4.2.2.2.2 = -1) ∧ ∀ v4 : Int32, (v4.toInt = a4.2 - l4.2.2.2.1) → ∀ S4 : zB, (RpS S4 (sk_rub a4 c.toInt)) → ∀ M4 : zM, (M4 = zbs M3 2 S4) → K (some (zI (v4))) M4) ∧ ((v2 = 0) → ∃ s5 : St, (RpX kd M s5) ∧ ∃ k5 : Nat, (k5 < 3 ∧ (-3 : Int32).toInt = -2 - (k5 : Int)) ∧ ∀ v5 : Int32, (v5 = (-3 : Int32)) → ∀ M5 : zM, (RpX kd M5 (sRf s5 k5)) → (fr9 M M5) → K (some (zI (v5))) M5)) ∧ ((v1 = 0) → ∃ s6 : St, (RpX kd M s6) ∧ ∃ k6 : Nat, (k6 < 3 ∧ (-2 : Int32).toInt = -2 - (k6 : Int)) ∧ ∀ v6 : Int32, (v6 = (-2 : Int32)) → ∀ M6 : zM, (RpX kd M6 (sRf s6 k6)) → (fr9 M M6) → K (some (zI (v6))) M6)) : X 0 [some (zR 0 0), some (zI (c))] [] M := hX 21 0 _ [] M (show ∀ v1 : Int32, (v1 = zp (0 ≤ c.toInt ∧ c.toInt < 6)) → ((¬ v1 = 0) → (kd 0 = 1) ∧ (kd 1 = 2) ∧ (kd 2 = 3) ∧ ∃ a2 : Sk, (RpS (M.1 2) a2) ∧ ∀ v2 : Int32, (v2 = zp (sk_canR a2 c.toInt = true)) → ((¬ v2 = 0) → (kd 0 = 1) ∧ (kd 1 = 2) ∧ (kd 3 = 4) ∧ ∃ L3 : List Int, (RpT (M.1 3) L3) ∧ ∀ S3 : zB, (RpT S3 (stAdd L3 c.toInt)) → ∀ M3 : zM, (M3 = zbs M 3 S3) → (kd 0 = 1) ∧ (kd 1 = 2) ∧ (kd 2 = 3) ∧ ∃ a4 : Sk, (RpS (M3.1 2) a4) ∧ ∃ l4 : Ly, (sk_top a4 c.toInt = some l4) ∧ (l4.2.2.2.2 = -1) ∧ ∀ v4 : Int32, (v4.toInt = a4.2 - l4.2.2.2.1) → ∀ S4 : zB, (RpS S4 (sk_rub a4 c.toInt)) → ∀ M4 : zM, (M4 = zbs M3 2 S4) → K (some (zI (v4))) M4) ∧ ((v2 = 0) → (kd 0 = 1) ∧ ∃ s5 : St, (RpX kd M s5) ∧ ∃ k5 : Nat, (k5 < 3 ∧ (-3 : Int32).toInt = -2 - (k5 : Int)) ∧ ∀ v5 : Int32, (v5 = (-3 : Int32)) → ∀ M5 : zM, (RpX kd M5 (sRf s5 k5)) → (fr9 M M5) → K (some (zI (v5))) M5)) ∧ ((v1 = 0) → (kd 0 = 1) ∧ ∃ s6 : St, (RpX kd M s6) ∧ ∃ k6 : Nat, (k6 < 3 ∧ (-2 : Int32).toInt = -2 - (k6 : Int)) ∧ ∀ v6 : Int32, (v6 = (-2 : Int32)) → ∀ M6 : zM, (RpX kd M6 (sRf s6 k6)) → (fr9 M M6) → K (some (zI (v6))) M6) from fun v1 => have h := h v1; fun q => have h := h q; ⟨fun q => have h := h.1 q; ⟨hk2, ⟨hk1, ⟨hk0, h.elim (fun a2 h => ⟨a2, ⟨h.1, have h := h.2; fun v2 => have h := h v2; fun q => have h := h q; ⟨fun q => have h := h.1 q; ⟨hk2, ⟨hk1, ⟨hk3, h.elim (fun L3 h => ⟨L3, ⟨h.1, have h := h.2; fun S3 => have h := h S3; fun q => have h := h q; fun M3 => have h := h M3; fun q => have h := h q; ⟨hk2, ⟨hk1, ⟨hk0, h.elim (fun a4 h => ⟨a4, ⟨h.1, have h := h.2; h.elim (fun l4 h => ⟨l4, ⟨h.1, have h := h.2; ⟨h.1, have h := h.2; fun v4 => have h := h v4; fun q => have h := h q; fun S4 => have h := h S4; fun q => have h := h q; fun M4 => have h := h M4; fun q => have h := h q; h⟩⟩⟩)⟩⟩)⟩⟩⟩⟩⟩)⟩⟩⟩, fun q => have h := h.2 q; ⟨hk2, h.elim (fun s5 h => ⟨s5, ⟨h.1, have h := h.2; h.elim (fun k5 h => ⟨k5, ⟨h.1, have h := h.2; fun v5 => have h := h v5; fun q => have h := h q; fun M5 => have h := h M5; fun q => have h := h q; fun q => have h := h q; h⟩⟩)⟩⟩)⟩⟩⟩⟩)⟩⟩⟩, fun q => have h := h.2 q; ⟨hk2, h.elim (fun s6 h => ⟨s6, ⟨h.1, have h := h.2; h.elim (fun k6 h => ⟨k6, ⟨h.1, have h := h.2; fun v6 => have h := h v6; fun q => have h := h q; fun M6 => have h := h M6; fun q => have h := h q; fun q => have h := h q; h⟩⟩)⟩⟩)⟩⟩)
def sp_X7_years : zSpec := fun kd as M K => match as with
  | [.inr (.inr (.inl (0, 0))), .inl n] => (kd 0 = 1) ∧ (KdX kd) ∧ ∃ s : St, (RpX kd M s) ∧ ∀ v : Int32, (v.toInt = (ev_years s n.toInt).1) → ∀ M' : zM, (RpX kd M' (ev_years s n.toInt).2) → (fr9 M M') → K (some (.inl v)) M'
  | _ => False
theorem rv_X7_years : zrv sp_X7_years 1 1 := by
  intro kd as M K h
  unfold sp_X7_years at h
  split at h
  · exact ⟨_, _, rfl, h.1⟩
  · exact h.elim
theorem dd_X7_years_0 : decode cX7_years 0 = .ok (.iload_n 1, 1) := by decide +kernel
theorem dd_X7_years_1 : decode cX7_years 1 = .ok (.iconst 1, 1) := by decide +kernel
theorem dd_X7_years_2 : decode cX7_years 2 = .ok (.bipush 99, 2) := by decide +kernel
theorem dd_X7_years_4 : decode cX7_years 4 = .ok (.invokestatic 66, 3) := by decide +kernel
theorem dd_X7_years_7 : decode cX7_years 7 = .ok (.ifCond .ne 10, 3) := by decide +kernel
theorem dd_X7_years_10 : decode cX7_years 10 = .ok (.aload_n 0, 1) := by decide +kernel
theorem dd_X7_years_11 : decode cX7_years 11 = .ok (.bipush (-2), 2) := by decide +kernel
theorem dd_X7_years_13 : decode cX7_years 13 = .ok (.invokevirtual 73, 3) := by decide +kernel
theorem dd_X7_years_16 : decode cX7_years 16 = .ok (.ireturn, 1) := by decide +kernel
theorem dd_X7_years_17 : decode cX7_years 17 = .ok (.aload_n 0, 1) := by decide +kernel
theorem dd_X7_years_18 : decode cX7_years 18 = .ok (.getfield 12, 3) := by decide +kernel
theorem dd_X7_years_21 : decode cX7_years 21 = .ok (.getfield 83, 3) := by decide +kernel
theorem dd_X7_years_24 : decode cX7_years 24 = .ok (.bipush 100, 2) := by decide +kernel
theorem dd_X7_years_26 : decode cX7_years 26 = .ok (.aload_n 0, 1) := by decide +kernel
theorem dd_X7_years_27 : decode cX7_years 27 = .ok (.getfield 12, 3) := by decide +kernel
theorem dd_X7_years_30 : decode cX7_years 30 = .ok (.getfield 52, 3) := by decide +kernel
theorem dd_X7_years_33 : decode cX7_years 33 = .ok (.getfield 100, 3) := by decide +kernel
theorem dd_X7_years_36 : decode cX7_years 36 = .ok (.iadd, 1) := by decide +kernel
theorem dd_X7_years_37 : decode cX7_years 37 = .ok (.invokevirtual 87, 3) := by decide +kernel
theorem dd_X7_years_40 : decode cX7_years 40 = .ok (.aload_n 0, 1) := by decide +kernel
theorem dd_X7_years_41 : decode cX7_years 41 = .ok (.getfield 12, 3) := by decide +kernel
theorem dd_X7_years_44 : decode cX7_years 44 = .ok (.getfield 52, 3) := by decide +kernel
theorem dd_X7_years_47 : decode cX7_years 47 = .ok (.iload_n 1, 1) := by decide +kernel
theorem dd_X7_years_48 : decode cX7_years 48 = .ok (.invokevirtual 104, 3) := by decide +kernel
theorem dd_X7_years_51 : decode cX7_years 51 = .ok (.aload_n 0, 1) := by decide +kernel
theorem dd_X7_years_52 : decode cX7_years 52 = .ok (.getfield 12, 3) := by decide +kernel
theorem dd_X7_years_55 : decode cX7_years 55 = .ok (.getfield 52, 3) := by decide +kernel
theorem dd_X7_years_58 : decode cX7_years 58 = .ok (.getfield 100, 3) := by decide +kernel
theorem dd_X7_years_61 : decode cX7_years 61 = .ok (.ireturn, 1) := by decide +kernel
def tb_X7_years (kd : Nat → Nat) (K : zK) : zTab := [(0, zt_iload 1 1), (1, zt_const (zI 1) 2), (2, zt_const (zI 99) 4), (4, zt_call kd sp_X7_within 3 7), (7, zt_if (fun x => ¬ x = 0) (fun x => x = 0) 17 10), (10, zt_aload 0 11), (11, zt_const (zI (-2)) 13), (13, zt_call kd sp_X7_refuse 2 16), (16, zt_iret K), (17, zt_aload 0 18), (18, zt_getR kd 1 1 0 21), (21, zt_getR kd 2 2 0 24), (24, zt_const (zI 100) 26), (26, zt_aload 0 27), (27, zt_getR kd 1 1 0 30), (30, zt_getR kd 2 1 0 33), (33, zt_getI kd 3 6 36), (36, zt_bin (fun x y => x + y) 37), (37, zt_call kd sp_X4_add 2 40), (40, zt_aload 0 41), (41, zt_getR kd 1 1 0 44), (44, zt_getR kd 2 1 0 47), (47, zt_iload 1 48), (48, zt_call kd sp_X3_pass 2 51), (51, zt_aload 0 52), (52, zt_getR kd 1 1 0 55), (55, zt_getR kd 2 1 0 58), (58, zt_getI kd 3 6 61), (61, zt_iret K)]
set_option maxRecDepth 20000 in
theorem tk_X7_years (d : Nat) (h_X7_within : zMS 1 yX7_within cX7_within 3 (some .boolean) sp_X7_within) (h_X7_refuse : zMS 2 yX7_refuse cX7_refuse 3 (some .int) sp_X7_refuse) (h_X4_add : zMS 1 yX4_add cX4_add 2 none sp_X4_add) (h_X3_pass : zMS 1 yX3_pass cX3_pass 2 none sp_X3_pass) : zTrue RX7 cX7_years 2 (some .int) (d + 3) (fun kd K => tb_X7_years kd K) := by
  intro p l e R s m args below meth c D cy A ad bl Qm K C0 hr hlocks hQ
  obtain ⟨hx, hb, hml, hown, hts, hK, hD, hA0, hN, hE, ⟨hR1, hR2⟩, hc1, hc2⟩ := id C0
  unfold tb_X7_years
  refine List.forall_mem_cons.mpr ⟨ok_iload_n hx hb rfl dd_X7_years_0, ?_⟩
  refine List.forall_mem_cons.mpr ⟨ok_iconst hx hb dd_X7_years_1 (by decide), ?_⟩
  refine List.forall_mem_cons.mpr ⟨ok_bipush hx hb dd_X7_years_2 (by decide), ?_⟩
  refine List.forall_mem_cons.mpr ⟨ok_callS (n := 3) C0 (h_X7_within (d + 2) (by omega)) (by decide) wd_321 wd_319 wd_320 wd_100 ⟨by decide +kernel, by decide +kernel, by decide +kernel⟩ dd_X7_years_4, ?_⟩
  refine List.forall_mem_cons.mpr ⟨ok_if_ne hx hb dd_X7_years_7 (by decide), ?_⟩
  refine List.forall_mem_cons.mpr ⟨ok_aload_n hx hb rfl dd_X7_years_10, ?_⟩
  refine List.forall_mem_cons.mpr ⟨ok_bipush hx hb dd_X7_years_11 (by decide), ?_⟩
  refine List.forall_mem_cons.mpr ⟨ok_callV (n := 1) zc_X7 rv_X7_refuse C0 (h_X7_refuse (d + 2) (by omega)) (by decide) wd_328 wd_325 wd_327 wd_3 wd_100 ⟨rfl, by decide +kernel, by decide +kernel, by decide +kernel⟩ dd_X7_years_13, ?_⟩
  refine List.forall_mem_cons.mpr ⟨ok_iret hx hb hr hlocks hQ dd_X7_years_16, ?_⟩
  refine List.forall_mem_cons.mpr ⟨ok_aload_n hx hb rfl dd_X7_years_17, ?_⟩
  refine List.forall_mem_cons.mpr ⟨ok_getR (j := 0) hx hb hts zi_X7 hown hK zc_X7 (by decide) rfl (fun t fl h => by cases h; rfl) (hts _ wd_271) dd_X7_years_18, ?_⟩
  refine List.forall_mem_cons.mpr ⟨ok_getRN (j := 1) hx hb hts zi_X2 hown hK zc_X2 (by decide) rfl (fun t fl h => by cases h; rfl) (va_Nw.use rfl (hN _ nd_203)) dd_X7_years_21, ?_⟩
  refine List.forall_mem_cons.mpr ⟨ok_bipush hx hb dd_X7_years_24 (by decide), ?_⟩
  refine List.forall_mem_cons.mpr ⟨ok_aload_n hx hb rfl dd_X7_years_26, ?_⟩
  refine List.forall_mem_cons.mpr ⟨ok_getR (j := 0) hx hb hts zi_X7 hown hK zc_X7 (by decide) rfl (fun t fl h => by cases h; rfl) (hts _ wd_271) dd_X7_years_27, ?_⟩
  refine List.forall_mem_cons.mpr ⟨ok_getRN (j := 0) hx hb hts zi_X2 hown hK zc_X2 (by decide) rfl (fun t fl h => by cases h; rfl) (va_Nw.use rfl (hN _ nd_201)) dd_X7_years_30, ?_⟩
  refine List.forall_mem_cons.mpr ⟨ok_getIN (j := 6) hx hb hts zi_X3 hown hK zc_X3 (by decide) rfl (fun t fl h => by cases h; rfl) (va_Nw.use rfl (hN _ nd_144)) dd_X7_years_33, ?_⟩
  refine List.forall_mem_cons.mpr ⟨ok_iadd hx hb dd_X7_years_36, ?_⟩
  refine List.forall_mem_cons.mpr ⟨ok_callVN (n := 1) zc_X4 rv_X4_add C0 (h_X4_add (d + 2) (by omega)) (by decide) wd_349 nd_346 wd_348 wd_8 wd_103 ⟨by decide +kernel, by decide +kernel, by decide +kernel⟩ dd_X7_years_37, ?_⟩
  refine List.forall_mem_cons.mpr ⟨ok_aload_n hx hb rfl dd_X7_years_40, ?_⟩
  refine List.forall_mem_cons.mpr ⟨ok_getR (j := 0) hx hb hts zi_X7 hown hK zc_X7 (by decide) rfl (fun t fl h => by cases h; rfl) (hts _ wd_271) dd_X7_years_41, ?_⟩
  refine List.forall_mem_cons.mpr ⟨ok_getRN (j := 0) hx hb hts zi_X2 hown hK zc_X2 (by decide) rfl (fun t fl h => by cases h; rfl) (va_Nw.use rfl (hN _ nd_201)) dd_X7_years_44, ?_⟩
  refine List.forall_mem_cons.mpr ⟨ok_iload_n hx hb rfl dd_X7_years_47, ?_⟩
  refine List.forall_mem_cons.mpr ⟨ok_callVN (n := 1) zc_X3 rv_X3_pass C0 (h_X3_pass (d + 2) (by omega)) (by decide) wd_372 nd_369 wd_371 wd_11 wd_102 ⟨by decide +kernel, by decide +kernel, by decide +kernel⟩ dd_X7_years_48, ?_⟩
  refine List.forall_mem_cons.mpr ⟨ok_aload_n hx hb rfl dd_X7_years_51, ?_⟩
  refine List.forall_mem_cons.mpr ⟨ok_getR (j := 0) hx hb hts zi_X7 hown hK zc_X7 (by decide) rfl (fun t fl h => by cases h; rfl) (hts _ wd_271) dd_X7_years_52, ?_⟩
  refine List.forall_mem_cons.mpr ⟨ok_getRN (j := 0) hx hb hts zi_X2 hown hK zc_X2 (by decide) rfl (fun t fl h => by cases h; rfl) (va_Nw.use rfl (hN _ nd_201)) dd_X7_years_55, ?_⟩
  refine List.forall_mem_cons.mpr ⟨ok_getIN (j := 6) hx hb hts zi_X3 hown hK zc_X3 (by decide) rfl (fun t fl h => by cases h; rfl) (va_Nw.use rfl (hN _ nd_144)) dd_X7_years_58, ?_⟩
  refine List.forall_mem_cons.mpr ⟨ok_iret hx hb hr hlocks hQ dd_X7_years_61, ?_⟩
  exact fun _ h => absurd h List.not_mem_nil
set_option maxRecDepth 100000 in
theorem vc_X7_years_0 {kd : Nat → Nat} {K : zK} {X : zX} (hX : ∀ (n pc : Nat) (ls : zLS) (st : List zV) (M : zM), zrun (tb_X7_years kd K) [] n X pc ls st M → X pc ls st M) {n : Int32} {M : zM} (hk0 : kd 2 = 3) (hk1 : kd 1 = 2) (hk2 : kd 0 = 1) (hk3 : kd 3 = 4) (h : ∀ v1 : Int32, (v1 = zp ((1 : Int32).toInt ≤ n.toInt ∧ n.toInt ≤ (99 : Int32).toInt)) → ((¬ v1 = 0) → ∃ L2 : List Int, (RpT (M.1 3) L2) ∧ ∀ S2 : zB, (RpT S2 (stAdd L2 ((100 : Int32) + (M.1 2 0 6)).toInt)) → ∀ M2 : zM, (M2 = zbs M 3 S2) → ∃ a3 : Sk, (RpS (M2.1 2) a3) ∧ (0 ≤ n.toInt ∧ n.toInt ≤ 99) ∧ ∀ S3 : zB, (RpS S3 (sk_yr a3 n.toInt)) → ∀ M3 : zM, (M3 = zbs M2 2 S3) → K (some (zI (M3.1 2 0 6))) M3) ∧ ((v1 = 0) → ∃ s4 : St, (RpX kd M s4) ∧ ∃ k4 : Nat, (k4 < 3 ∧ (-2 : Int32).toInt = -2 - (k4 : Int)) ∧ ∀ v4 : Int32, (v4 = (-2 : Int32)) → ∀ M4 : zM, (RpX kd M4 (sRf s4 k4)) → (fr9 M M4) → K (some (zI (v4))) M4)) : X 0 [some (zR 0 0), some (zI (n))] [] M := hX 26 0 _ [] M (show ∀ v1 : Int32, (v1 = zp ((1 : Int32).toInt ≤ n.toInt ∧ n.toInt ≤ (99 : Int32).toInt)) → ((¬ v1 = 0) → (kd 0 = 1) ∧ (kd 1 = 2) ∧ (kd 0 = 1) ∧ (kd 1 = 2) ∧ (kd 2 = 3) ∧ (kd 3 = 4) ∧ ∃ L2 : List Int, (RpT (M.1 3) L2) ∧ ∀ S2 : zB, (RpT S2 (stAdd L2 ((100 : Int32) + (M.1 2 0 6)).toInt)) → ∀ M2 : zM, (M2 = zbs M 3 S2) → (kd 0 = 1) ∧ (kd 1 = 2) ∧ (kd 2 = 3) ∧ ∃ a3 : Sk, (RpS (M2.1 2) a3) ∧ (0 ≤ n.toInt ∧ n.toInt ≤ 99) ∧ ∀ S3 : zB, (RpS S3 (sk_yr a3 n.toInt)) → ∀ M3 : zM, (M3 = zbs M2 2 S3) → (kd 0 = 1) ∧ (kd 1 = 2) ∧ (kd 2 = 3) ∧ K (some (zI (M3.1 2 0 6))) M3) ∧ ((v1 = 0) → (kd 0 = 1) ∧ ∃ s4 : St, (RpX kd M s4) ∧ ∃ k4 : Nat, (k4 < 3 ∧ (-2 : Int32).toInt = -2 - (k4 : Int)) ∧ ∀ v4 : Int32, (v4 = (-2 : Int32)) → ∀ M4 : zM, (RpX kd M4 (sRf s4 k4)) → (fr9 M M4) → K (some (zI (v4))) M4) from fun v1 => have h := h v1; fun q => have h := h q; ⟨fun q => have h := h.1 q; ⟨hk2, ⟨hk1, ⟨hk2, ⟨hk1, ⟨hk0, ⟨hk3, h.elim (fun L2 h => ⟨L2, ⟨h.1, have h := h.2; fun S2 => have h := h S2; fun q => have h := h q; fun M2 => have h := h M2; fun q => have h := h q; ⟨hk2, ⟨hk1, ⟨hk0, h.elim (fun a3 h => ⟨a3, ⟨h.1, have h := h.2; ⟨h.1, have h := h.2; fun S3 => have h := h S3; fun q => have h := h q; fun M3 => have h := h M3; fun q => have h := h q; ⟨hk2, ⟨hk1, ⟨hk0, h⟩⟩⟩⟩⟩⟩)⟩⟩⟩⟩⟩)⟩⟩⟩⟩⟩⟩, fun q => have h := h.2 q; ⟨hk2, h.elim (fun s4 h => ⟨s4, ⟨h.1, have h := h.2; h.elim (fun k4 h => ⟨k4, ⟨h.1, have h := h.2; fun v4 => have h := h v4; fun q => have h := h q; fun M4 => have h := h M4; fun q => have h := h q; fun q => have h := h q; h⟩⟩)⟩⟩)⟩⟩)
def sp_X7_undo : zSpec := fun kd as M K => match as with
  | [.inr (.inr (.inl (0, 0)))] => (kd 0 = 1) ∧ (KdX kd) ∧ ∃ s : St, (RpX kd M s) ∧ ∀ v : Int32, (v.toInt = (ev_undo s).1) → ∀ M' : zM, (RpX kd M' (ev_undo s).2) → (fr9 M M') → K (some (.inl v)) M'
  | _ => False
theorem rv_X7_undo : zrv sp_X7_undo 1 0 := by
  intro kd as M K h
  unfold sp_X7_undo at h
  split at h
  · exact ⟨_, _, rfl, h.1⟩
  · exact h.elim
theorem dd_X7_undo_0 : decode cX7_undo 0 = .ok (.aload_n 0, 1) := by decide +kernel
theorem dd_X7_undo_1 : decode cX7_undo 1 = .ok (.getfield 12, 3) := by decide +kernel
theorem dd_X7_undo_4 : decode cX7_undo 4 = .ok (.getfield 83, 3) := by decide +kernel
theorem dd_X7_undo_7 : decode cX7_undo 7 = .ok (.invokevirtual 107, 3) := by decide +kernel
theorem dd_X7_undo_10 : decode cX7_undo 10 = .ok (.istore_n 1, 1) := by decide +kernel
theorem dd_X7_undo_11 : decode cX7_undo 11 = .ok (.iload_n 1, 1) := by decide +kernel
theorem dd_X7_undo_12 : decode cX7_undo 12 = .ok (.iconst (-1), 1) := by decide +kernel
theorem dd_X7_undo_13 : decode cX7_undo 13 = .ok (.if_icmp .ne 10, 3) := by decide +kernel
theorem dd_X7_undo_16 : decode cX7_undo 16 = .ok (.aload_n 0, 1) := by decide +kernel
theorem dd_X7_undo_17 : decode cX7_undo 17 = .ok (.bipush (-3), 2) := by decide +kernel
theorem dd_X7_undo_19 : decode cX7_undo 19 = .ok (.invokevirtual 73, 3) := by decide +kernel
theorem dd_X7_undo_22 : decode cX7_undo 22 = .ok (.ireturn, 1) := by decide +kernel
theorem dd_X7_undo_23 : decode cX7_undo 23 = .ok (.iload_n 1, 1) := by decide +kernel
theorem dd_X7_undo_24 : decode cX7_undo 24 = .ok (.bipush 100, 2) := by decide +kernel
theorem dd_X7_undo_26 : decode cX7_undo 26 = .ok (.if_icmp .lt 20, 3) := by decide +kernel
theorem dd_X7_undo_29 : decode cX7_undo 29 = .ok (.aload_n 0, 1) := by decide +kernel
theorem dd_X7_undo_30 : decode cX7_undo 30 = .ok (.getfield 12, 3) := by decide +kernel
theorem dd_X7_undo_33 : decode cX7_undo 33 = .ok (.getfield 52, 3) := by decide +kernel
theorem dd_X7_undo_36 : decode cX7_undo 36 = .ok (.iload_n 1, 1) := by decide +kernel
theorem dd_X7_undo_37 : decode cX7_undo 37 = .ok (.bipush 100, 2) := by decide +kernel
theorem dd_X7_undo_39 : decode cX7_undo 39 = .ok (.isub, 1) := by decide +kernel
theorem dd_X7_undo_40 : decode cX7_undo 40 = .ok (.putfield 100, 3) := by decide +kernel
theorem dd_X7_undo_43 : decode cX7_undo 43 = .ok (.goto 14, 3) := by decide +kernel
theorem dd_X7_undo_46 : decode cX7_undo 46 = .ok (.aload_n 0, 1) := by decide +kernel
theorem dd_X7_undo_47 : decode cX7_undo 47 = .ok (.getfield 12, 3) := by decide +kernel
theorem dd_X7_undo_50 : decode cX7_undo 50 = .ok (.getfield 52, 3) := by decide +kernel
theorem dd_X7_undo_53 : decode cX7_undo 53 = .ok (.iload_n 1, 1) := by decide +kernel
theorem dd_X7_undo_54 : decode cX7_undo 54 = .ok (.invokevirtual 110, 3) := by decide +kernel
theorem dd_X7_undo_57 : decode cX7_undo 57 = .ok (.aload_n 0, 1) := by decide +kernel
theorem dd_X7_undo_58 : decode cX7_undo 58 = .ok (.getfield 12, 3) := by decide +kernel
theorem dd_X7_undo_61 : decode cX7_undo 61 = .ok (.getfield 52, 3) := by decide +kernel
theorem dd_X7_undo_64 : decode cX7_undo 64 = .ok (.getfield 100, 3) := by decide +kernel
theorem dd_X7_undo_67 : decode cX7_undo 67 = .ok (.ireturn, 1) := by decide +kernel
def tb_X7_undo (kd : Nat → Nat) (K : zK) : zTab := [(0, zt_aload 0 1), (1, zt_getR kd 1 1 0 4), (4, zt_getR kd 2 2 0 7), (7, zt_call kd sp_X4_takeLast 1 10), (10, zt_istore 1 11), (11, zt_iload 1 12), (12, zt_const (zI (-1)) 13), (13, zt_icmp (fun x y => ¬ x = y) (fun x y => x = y) 23 16), (16, zt_aload 0 17), (17, zt_const (zI (-3)) 19), (19, zt_call kd sp_X7_refuse 2 22), (22, zt_iret K), (23, zt_iload 1 24), (24, zt_const (zI 100) 26), (26, zt_icmp (fun x y => x < y) (fun x y => ¬ x < y) 46 29), (29, zt_aload 0 30), (30, zt_getR kd 1 1 0 33), (33, zt_getR kd 2 1 0 36), (36, zt_iload 1 37), (37, zt_const (zI 100) 39), (39, zt_bin (fun x y => x - y) 40), (40, zt_putI kd 3 6 43), (43, zt_goto 57), (46, zt_aload 0 47), (47, zt_getR kd 1 1 0 50), (50, zt_getR kd 2 1 0 53), (53, zt_iload 1 54), (54, zt_call kd sp_X3_takeBack 2 57), (57, zt_aload 0 58), (58, zt_getR kd 1 1 0 61), (61, zt_getR kd 2 1 0 64), (64, zt_getI kd 3 6 67), (67, zt_iret K)]
set_option maxRecDepth 20000 in
theorem tk_X7_undo (d : Nat) (h_X4_takeLast : zMS 1 yX4_takeLast cX4_takeLast 1 (some .int) sp_X4_takeLast) (h_X7_refuse : zMS 2 yX7_refuse cX7_refuse 3 (some .int) sp_X7_refuse) (h_X3_takeBack : zMS 3 yX3_takeBack cX3_takeBack 4 none sp_X3_takeBack) : zTrue RX7 cX7_undo 2 (some .int) (d + 4) (fun kd K => tb_X7_undo kd K) := by
  intro p l e R s m args below meth c D cy A ad bl Qm K C0 hr hlocks hQ
  obtain ⟨hx, hb, hml, hown, hts, hK, hD, hA0, hN, hE, ⟨hR1, hR2⟩, hc1, hc2⟩ := id C0
  unfold tb_X7_undo
  refine List.forall_mem_cons.mpr ⟨ok_aload_n hx hb rfl dd_X7_undo_0, ?_⟩
  refine List.forall_mem_cons.mpr ⟨ok_getR (j := 0) hx hb hts zi_X7 hown hK zc_X7 (by decide) rfl (fun t fl h => by cases h; rfl) (hts _ wd_271) dd_X7_undo_1, ?_⟩
  refine List.forall_mem_cons.mpr ⟨ok_getRN (j := 1) hx hb hts zi_X2 hown hK zc_X2 (by decide) rfl (fun t fl h => by cases h; rfl) (va_Nw.use rfl (hN _ nd_203)) dd_X7_undo_4, ?_⟩
  refine List.forall_mem_cons.mpr ⟨ok_callVN (n := 0) zc_X4 rv_X4_takeLast C0 (h_X4_takeLast (d + 3) (by omega)) (by decide) wd_383 nd_380 wd_382 wd_12 wd_103 ⟨by decide +kernel, by decide +kernel, by decide +kernel⟩ dd_X7_undo_7, ?_⟩
  refine List.forall_mem_cons.mpr ⟨ok_istore_n hx hb rfl dd_X7_undo_10, ?_⟩
  refine List.forall_mem_cons.mpr ⟨ok_iload_n hx hb rfl dd_X7_undo_11, ?_⟩
  refine List.forall_mem_cons.mpr ⟨ok_iconst hx hb dd_X7_undo_12 (by decide), ?_⟩
  refine List.forall_mem_cons.mpr ⟨ok_icmp_ne hx hb dd_X7_undo_13 (by decide), ?_⟩
  refine List.forall_mem_cons.mpr ⟨ok_aload_n hx hb rfl dd_X7_undo_16, ?_⟩
  refine List.forall_mem_cons.mpr ⟨ok_bipush hx hb dd_X7_undo_17 (by decide), ?_⟩
  refine List.forall_mem_cons.mpr ⟨ok_callV (n := 1) zc_X7 rv_X7_refuse C0 (h_X7_refuse (d + 3) (by omega)) (by decide) wd_328 wd_325 wd_327 wd_3 wd_100 ⟨rfl, by decide +kernel, by decide +kernel, by decide +kernel⟩ dd_X7_undo_19, ?_⟩
  refine List.forall_mem_cons.mpr ⟨ok_iret hx hb hr hlocks hQ dd_X7_undo_22, ?_⟩
  refine List.forall_mem_cons.mpr ⟨ok_iload_n hx hb rfl dd_X7_undo_23, ?_⟩
  refine List.forall_mem_cons.mpr ⟨ok_bipush hx hb dd_X7_undo_24 (by decide), ?_⟩
  refine List.forall_mem_cons.mpr ⟨ok_icmp_lt hx hb dd_X7_undo_26 (by decide), ?_⟩
  refine List.forall_mem_cons.mpr ⟨ok_aload_n hx hb rfl dd_X7_undo_29, ?_⟩
  refine List.forall_mem_cons.mpr ⟨ok_getR (j := 0) hx hb hts zi_X7 hown hK zc_X7 (by decide) rfl (fun t fl h => by cases h; rfl) (hts _ wd_271) dd_X7_undo_30, ?_⟩
  refine List.forall_mem_cons.mpr ⟨ok_getRN (j := 0) hx hb hts zi_X2 hown hK zc_X2 (by decide) rfl (fun t fl h => by cases h; rfl) (va_Nw.use rfl (hN _ nd_201)) dd_X7_undo_33, ?_⟩
  refine List.forall_mem_cons.mpr ⟨ok_iload_n hx hb rfl dd_X7_undo_36, ?_⟩
  refine List.forall_mem_cons.mpr ⟨ok_bipush hx hb dd_X7_undo_37 (by decide), ?_⟩
  refine List.forall_mem_cons.mpr ⟨ok_isub hx hb dd_X7_undo_39, ?_⟩
  refine List.forall_mem_cons.mpr ⟨ok_putIN (j := 6) hx hb hts zi_X3 tyX3 tyX3_ok nmX3 hown hK hD zc_X3 (by decide) rfl rfl (by decide +kernel) (fun t fl h => by cases h; rfl) (va_Nw.use rfl (hN _ nd_144)) dd_X7_undo_40, ?_⟩
  refine List.forall_mem_cons.mpr ⟨ok_goto hx hb dd_X7_undo_43 (by decide), ?_⟩
  refine List.forall_mem_cons.mpr ⟨ok_aload_n hx hb rfl dd_X7_undo_46, ?_⟩
  refine List.forall_mem_cons.mpr ⟨ok_getR (j := 0) hx hb hts zi_X7 hown hK zc_X7 (by decide) rfl (fun t fl h => by cases h; rfl) (hts _ wd_271) dd_X7_undo_47, ?_⟩
  refine List.forall_mem_cons.mpr ⟨ok_getRN (j := 0) hx hb hts zi_X2 hown hK zc_X2 (by decide) rfl (fun t fl h => by cases h; rfl) (va_Nw.use rfl (hN _ nd_201)) dd_X7_undo_50, ?_⟩
  refine List.forall_mem_cons.mpr ⟨ok_iload_n hx hb rfl dd_X7_undo_53, ?_⟩
  refine List.forall_mem_cons.mpr ⟨ok_callVN (n := 1) zc_X3 rv_X3_takeBack C0 (h_X3_takeBack (d + 3) (by omega)) (by decide) wd_387 nd_384 wd_386 wd_13 wd_102 ⟨by decide +kernel, by decide +kernel, by decide +kernel⟩ dd_X7_undo_54, ?_⟩
  refine List.forall_mem_cons.mpr ⟨ok_aload_n hx hb rfl dd_X7_undo_57, ?_⟩
  refine List.forall_mem_cons.mpr ⟨ok_getR (j := 0) hx hb hts zi_X7 hown hK zc_X7 (by decide) rfl (fun t fl h => by cases h; rfl) (hts _ wd_271) dd_X7_undo_58, ?_⟩
  refine List.forall_mem_cons.mpr ⟨ok_getRN (j := 0) hx hb hts zi_X2 hown hK zc_X2 (by decide) rfl (fun t fl h => by cases h; rfl) (va_Nw.use rfl (hN _ nd_201)) dd_X7_undo_61, ?_⟩
  refine List.forall_mem_cons.mpr ⟨ok_getIN (j := 6) hx hb hts zi_X3 hown hK zc_X3 (by decide) rfl (fun t fl h => by cases h; rfl) (va_Nw.use rfl (hN _ nd_144)) dd_X7_undo_64, ?_⟩
  refine List.forall_mem_cons.mpr ⟨ok_iret hx hb hr hlocks hQ dd_X7_undo_67, ?_⟩
  exact fun _ h => absurd h List.not_mem_nil
set_option maxRecDepth 100000 in
theorem vc_X7_undo_0 {kd : Nat → Nat} {K : zK} {X : zX} (hX : ∀ (n pc : Nat) (ls : zLS) (st : List zV) (M : zM), zrun (tb_X7_undo kd K) [] n X pc ls st M → X pc ls st M)  {M : zM} (hk0 : kd 2 = 3) (hk1 : kd 1 = 2) (hk2 : kd 0 = 1) (hk3 : kd 3 = 4) (h : ∃ L1 : List Int, (RpT (M.1 3) L1) ∧ ∀ v1 : Int32, (v1.toInt = (L1.getLast?).getD (-1)) → ∀ S1 : zB, (RpT S1 L1.dropLast) → ∀ M1 : zM, (M1 = zbs M 3 S1) → ((¬ v1 = (-1 : Int32)) → ((v1 < (100 : Int32)) → ∃ a2 : Sk, (RpS (M1.1 2) a2) ∧ ∃ b2 : Sk, (okSk b2) ∧ (0 ≤ v1.toInt ∧ v1.toInt < 20) ∧ (sk_aft b2 v1.toInt a2) ∧ ∀ S2 : zB, (RpS S2 (b2)) → ∀ M2 : zM, (M2 = zbs M1 2 S2) → K (some (zI (M2.1 2 0 6))) M2) ∧ ((¬ v1 < (100 : Int32)) → ∀ M3 : zM, (M3 = zmw M1 2 0 (upd (M1.1 2 0) 6 (v1 - (100 : Int32)))) → K (some (zI (M3.1 2 0 6))) M3)) ∧ ((v1 = (-1 : Int32)) → ∃ s4 : St, (RpX kd M1 s4) ∧ ∃ k4 : Nat, (k4 < 3 ∧ (-3 : Int32).toInt = -2 - (k4 : Int)) ∧ ∀ v4 : Int32, (v4 = (-3 : Int32)) → ∀ M4 : zM, (RpX kd M4 (sRf s4 k4)) → (fr9 M1 M4) → K (some (zI (v4))) M4)) : X 0 [some (zR 0 0), none] [] M := hX 25 0 _ [] M (show (kd 0 = 1) ∧ (kd 1 = 2) ∧ (kd 3 = 4) ∧ ∃ L1 : List Int, (RpT (M.1 3) L1) ∧ ∀ v1 : Int32, (v1.toInt = (L1.getLast?).getD (-1)) → ∀ S1 : zB, (RpT S1 L1.dropLast) → ∀ M1 : zM, (M1 = zbs M 3 S1) → ((¬ v1 = (-1 : Int32)) → ((v1 < (100 : Int32)) → (kd 0 = 1) ∧ (kd 1 = 2) ∧ (kd 2 = 3) ∧ ∃ a2 : Sk, (RpS (M1.1 2) a2) ∧ ∃ b2 : Sk, (okSk b2) ∧ (0 ≤ v1.toInt ∧ v1.toInt < 20) ∧ (sk_aft b2 v1.toInt a2) ∧ ∀ S2 : zB, (RpS S2 (b2)) → ∀ M2 : zM, (M2 = zbs M1 2 S2) → (kd 0 = 1) ∧ (kd 1 = 2) ∧ (kd 2 = 3) ∧ K (some (zI (M2.1 2 0 6))) M2) ∧ ((¬ v1 < (100 : Int32)) → (kd 0 = 1) ∧ (kd 1 = 2) ∧ (kd 2 = 3) ∧ ∀ M3 : zM, (M3 = zmw M1 2 0 (upd (M1.1 2 0) 6 (v1 - (100 : Int32)))) → (kd 0 = 1) ∧ (kd 1 = 2) ∧ (kd 2 = 3) ∧ K (some (zI (M3.1 2 0 6))) M3)) ∧ ((v1 = (-1 : Int32)) → (kd 0 = 1) ∧ ∃ s4 : St, (RpX kd M1 s4) ∧ ∃ k4 : Nat, (k4 < 3 ∧ (-3 : Int32).toInt = -2 - (k4 : Int)) ∧ ∀ v4 : Int32, (v4 = (-3 : Int32)) → ∀ M4 : zM, (RpX kd M4 (sRf s4 k4)) → (fr9 M1 M4) → K (some (zI (v4))) M4) from ⟨hk2, ⟨hk1, ⟨hk3, h.elim (fun L1 h => ⟨L1, ⟨h.1, have h := h.2; fun v1 => have h := h v1; fun q => have h := h q; fun S1 => have h := h S1; fun q => have h := h q; fun M1 => have h := h M1; fun q => have h := h q; ⟨fun q => have h := h.1 q; ⟨fun q => have h := h.1 q; ⟨hk2, ⟨hk1, ⟨hk0, h.elim (fun a2 h => ⟨a2, ⟨h.1, have h := h.2; h.elim (fun b2 h => ⟨b2, ⟨h.1, have h := h.2; ⟨h.1, have h := h.2; ⟨h.1, have h := h.2; fun S2 => have h := h S2; fun q => have h := h q; fun M2 => have h := h M2; fun q => have h := h q; ⟨hk2, ⟨hk1, ⟨hk0, h⟩⟩⟩⟩⟩⟩⟩)⟩⟩)⟩⟩⟩, fun q => have h := h.2 q; ⟨hk2, ⟨hk1, ⟨hk0, fun M3 => have h := h M3; fun q => have h := h q; ⟨hk2, ⟨hk1, ⟨hk0, h⟩⟩⟩⟩⟩⟩⟩, fun q => have h := h.2 q; ⟨hk2, h.elim (fun s4 h => ⟨s4, ⟨h.1, have h := h.2; h.elim (fun k4 h => ⟨k4, ⟨h.1, have h := h.2; fun v4 => have h := h v4; fun q => have h := h q; fun M4 => have h := h M4; fun q => have h := h q; fun q => have h := h q; h⟩⟩)⟩⟩)⟩⟩⟩⟩)⟩⟩⟩)
def sp_X7_type : zSpec := fun kd as M K => match as with
  | [.inr (.inr (.inl (0, 0))), .inl c] => (kd 0 = 1) ∧ (KdX kd) ∧ ∃ s : St, (RpX kd M s) ∧ ∀ v : Int32, (v.toInt = (ev_type s c.toInt).1) → ∀ M' : zM, (RpX kd M' (ev_type s c.toInt).2) → (fr9 M M') → K (some (.inl v)) M'
  | _ => False
theorem rv_X7_type : zrv sp_X7_type 1 1 := by
  intro kd as M K h
  unfold sp_X7_type at h
  split at h
  · exact ⟨_, _, rfl, h.1⟩
  · exact h.elim
theorem dd_X7_type_0 : decode cX7_type 0 = .ok (.iload_n 1, 1) := by decide +kernel
theorem dd_X7_type_1 : decode cX7_type 1 = .ok (.iconst 0, 1) := by decide +kernel
theorem dd_X7_type_2 : decode cX7_type 2 = .ok (.bipush 127, 2) := by decide +kernel
theorem dd_X7_type_4 : decode cX7_type 4 = .ok (.invokestatic 66, 3) := by decide +kernel
theorem dd_X7_type_7 : decode cX7_type 7 = .ok (.ifCond .ne 10, 3) := by decide +kernel
theorem dd_X7_type_10 : decode cX7_type 10 = .ok (.aload_n 0, 1) := by decide +kernel
theorem dd_X7_type_11 : decode cX7_type 11 = .ok (.bipush (-2), 2) := by decide +kernel
theorem dd_X7_type_13 : decode cX7_type 13 = .ok (.invokevirtual 73, 3) := by decide +kernel
theorem dd_X7_type_16 : decode cX7_type 16 = .ok (.ireturn, 1) := by decide +kernel
theorem dd_X7_type_17 : decode cX7_type 17 = .ok (.aload_n 0, 1) := by decide +kernel
theorem dd_X7_type_18 : decode cX7_type 18 = .ok (.getfield 37, 3) := by decide +kernel
theorem dd_X7_type_21 : decode cX7_type 21 = .ok (.getfield 113, 3) := by decide +kernel
theorem dd_X7_type_24 : decode cX7_type 24 = .ok (.sipush 150, 3) := by decide +kernel
theorem dd_X7_type_27 : decode cX7_type 27 = .ok (.if_icmp .lt 10, 3) := by decide +kernel
theorem dd_X7_type_30 : decode cX7_type 30 = .ok (.aload_n 0, 1) := by decide +kernel
theorem dd_X7_type_31 : decode cX7_type 31 = .ok (.bipush (-4), 2) := by decide +kernel
theorem dd_X7_type_33 : decode cX7_type 33 = .ok (.invokevirtual 73, 3) := by decide +kernel
theorem dd_X7_type_36 : decode cX7_type 36 = .ok (.ireturn, 1) := by decide +kernel
theorem dd_X7_type_37 : decode cX7_type 37 = .ok (.aload_n 0, 1) := by decide +kernel
theorem dd_X7_type_38 : decode cX7_type 38 = .ok (.getfield 37, 3) := by decide +kernel
theorem dd_X7_type_41 : decode cX7_type 41 = .ok (.iload_n 1, 1) := by decide +kernel
theorem dd_X7_type_42 : decode cX7_type 42 = .ok (.invokevirtual 116, 3) := by decide +kernel
theorem dd_X7_type_45 : decode cX7_type 45 = .ok (.ireturn, 1) := by decide +kernel
def tb_X7_type (kd : Nat → Nat) (K : zK) : zTab := [(0, zt_iload 1 1), (1, zt_const (zI 0) 2), (2, zt_const (zI 127) 4), (4, zt_call kd sp_X7_within 3 7), (7, zt_if (fun x => ¬ x = 0) (fun x => x = 0) 17 10), (10, zt_aload 0 11), (11, zt_const (zI (-2)) 13), (13, zt_call kd sp_X7_refuse 2 16), (16, zt_iret K), (17, zt_aload 0 18), (18, zt_getR kd 1 8 0 21), (21, zt_getI kd 7 1 24), (24, zt_const (zI 150) 27), (27, zt_icmp (fun x y => x < y) (fun x y => ¬ x < y) 37 30), (30, zt_aload 0 31), (31, zt_const (zI (-4)) 33), (33, zt_call kd sp_X7_refuse 2 36), (36, zt_iret K), (37, zt_aload 0 38), (38, zt_getR kd 1 8 0 41), (41, zt_iload 1 42), (42, zt_call kd sp_X5_add 2 45), (45, zt_iret K)]
set_option maxRecDepth 20000 in
theorem tk_X7_type (d : Nat) (h_X7_within : zMS 1 yX7_within cX7_within 3 (some .boolean) sp_X7_within) (h_X7_refuse : zMS 2 yX7_refuse cX7_refuse 3 (some .int) sp_X7_refuse) (h_X5_add : zMS 1 yX5_add cX5_add 2 (some .int) sp_X5_add) : zTrue RX7 cX7_type 2 (some .int) (d + 3) (fun kd K => tb_X7_type kd K) := by
  intro p l e R s m args below meth c D cy A ad bl Qm K C0 hr hlocks hQ
  obtain ⟨hx, hb, hml, hown, hts, hK, hD, hA0, hN, hE, ⟨hR1, hR2⟩, hc1, hc2⟩ := id C0
  unfold tb_X7_type
  refine List.forall_mem_cons.mpr ⟨ok_iload_n hx hb rfl dd_X7_type_0, ?_⟩
  refine List.forall_mem_cons.mpr ⟨ok_iconst hx hb dd_X7_type_1 (by decide), ?_⟩
  refine List.forall_mem_cons.mpr ⟨ok_bipush hx hb dd_X7_type_2 (by decide), ?_⟩
  refine List.forall_mem_cons.mpr ⟨ok_callS (n := 3) C0 (h_X7_within (d + 2) (by omega)) (by decide) wd_321 wd_319 wd_320 wd_100 ⟨by decide +kernel, by decide +kernel, by decide +kernel⟩ dd_X7_type_4, ?_⟩
  refine List.forall_mem_cons.mpr ⟨ok_if_ne hx hb dd_X7_type_7 (by decide), ?_⟩
  refine List.forall_mem_cons.mpr ⟨ok_aload_n hx hb rfl dd_X7_type_10, ?_⟩
  refine List.forall_mem_cons.mpr ⟨ok_bipush hx hb dd_X7_type_11 (by decide), ?_⟩
  refine List.forall_mem_cons.mpr ⟨ok_callV (n := 1) zc_X7 rv_X7_refuse C0 (h_X7_refuse (d + 2) (by omega)) (by decide) wd_328 wd_325 wd_327 wd_3 wd_100 ⟨rfl, by decide +kernel, by decide +kernel, by decide +kernel⟩ dd_X7_type_13, ?_⟩
  refine List.forall_mem_cons.mpr ⟨ok_iret hx hb hr hlocks hQ dd_X7_type_16, ?_⟩
  refine List.forall_mem_cons.mpr ⟨ok_aload_n hx hb rfl dd_X7_type_17, ?_⟩
  refine List.forall_mem_cons.mpr ⟨ok_getR (j := 4) hx hb hts zi_X7 hown hK zc_X7 (by decide) rfl (fun t fl h => by cases h; rfl) (hts _ wd_275) dd_X7_type_18, ?_⟩
  refine List.forall_mem_cons.mpr ⟨ok_getIN (j := 1) hx hb hts zi_X5 hown hK zc_X5 (by decide) rfl (fun t fl h => by cases h; rfl) (va_Nw.use rfl (hN _ nd_249)) dd_X7_type_21, ?_⟩
  refine List.forall_mem_cons.mpr ⟨ok_sipush hx hb dd_X7_type_24 (by decide), ?_⟩
  refine List.forall_mem_cons.mpr ⟨ok_icmp_lt hx hb dd_X7_type_27 (by decide), ?_⟩
  refine List.forall_mem_cons.mpr ⟨ok_aload_n hx hb rfl dd_X7_type_30, ?_⟩
  refine List.forall_mem_cons.mpr ⟨ok_bipush hx hb dd_X7_type_31 (by decide), ?_⟩
  refine List.forall_mem_cons.mpr ⟨ok_callV (n := 1) zc_X7 rv_X7_refuse C0 (h_X7_refuse (d + 2) (by omega)) (by decide) wd_328 wd_325 wd_327 wd_3 wd_100 ⟨rfl, by decide +kernel, by decide +kernel, by decide +kernel⟩ dd_X7_type_33, ?_⟩
  refine List.forall_mem_cons.mpr ⟨ok_iret hx hb hr hlocks hQ dd_X7_type_36, ?_⟩
  refine List.forall_mem_cons.mpr ⟨ok_aload_n hx hb rfl dd_X7_type_37, ?_⟩
  refine List.forall_mem_cons.mpr ⟨ok_getR (j := 4) hx hb hts zi_X7 hown hK zc_X7 (by decide) rfl (fun t fl h => by cases h; rfl) (hts _ wd_275) dd_X7_type_38, ?_⟩
  refine List.forall_mem_cons.mpr ⟨ok_iload_n hx hb rfl dd_X7_type_41, ?_⟩
  refine List.forall_mem_cons.mpr ⟨ok_callVN (n := 1) zc_X5 rv_X5_add C0 (h_X5_add (d + 2) (by omega)) (by decide) wd_398 nd_395 wd_397 wd_14 wd_106 ⟨by decide +kernel, by decide +kernel, by decide +kernel⟩ dd_X7_type_42, ?_⟩
  refine List.forall_mem_cons.mpr ⟨ok_iret hx hb hr hlocks hQ dd_X7_type_45, ?_⟩
  exact fun _ h => absurd h List.not_mem_nil
set_option maxRecDepth 100000 in
theorem vc_X7_type_0 {kd : Nat → Nat} {K : zK} {X : zX} (hX : ∀ (n pc : Nat) (ls : zLS) (st : List zV) (M : zM), zrun (tb_X7_type kd K) [] n X pc ls st M → X pc ls st M) {c : Int32} {M : zM} (hk0 : kd 8 = 7) (hk1 : kd 0 = 1) (h : ∀ v1 : Int32, (v1 = zp ((0 : Int32).toInt ≤ c.toInt ∧ c.toInt ≤ (127 : Int32).toInt)) → ((¬ v1 = 0) → (((M.1 8 0 1) < (150 : Int32)) → ∃ b2 : List Int, (RpB (M.1 8) b2) ∧ (b2.length < 150) ∧ (0 ≤ c.toInt ∧ c.toInt ≤ 127) ∧ ∀ v2 : Int32, (v2.toInt = (b2.length : Int) + 1) → ∀ S2 : zB, (RpB S2 (b2 ++ [c.toInt])) → ∀ M2 : zM, (M2 = zbs M 8 S2) → K (some (zI (v2))) M2) ∧ ((¬ (M.1 8 0 1) < (150 : Int32)) → ∃ s3 : St, (RpX kd M s3) ∧ ∃ k3 : Nat, (k3 < 3 ∧ (-4 : Int32).toInt = -2 - (k3 : Int)) ∧ ∀ v3 : Int32, (v3 = (-4 : Int32)) → ∀ M3 : zM, (RpX kd M3 (sRf s3 k3)) → (fr9 M M3) → K (some (zI (v3))) M3)) ∧ ((v1 = 0) → ∃ s4 : St, (RpX kd M s4) ∧ ∃ k4 : Nat, (k4 < 3 ∧ (-2 : Int32).toInt = -2 - (k4 : Int)) ∧ ∀ v4 : Int32, (v4 = (-2 : Int32)) → ∀ M4 : zM, (RpX kd M4 (sRf s4 k4)) → (fr9 M M4) → K (some (zI (v4))) M4)) : X 0 [some (zR 0 0), some (zI (c))] [] M := hX 16 0 _ [] M (show ∀ v1 : Int32, (v1 = zp ((0 : Int32).toInt ≤ c.toInt ∧ c.toInt ≤ (127 : Int32).toInt)) → ((¬ v1 = 0) → (kd 0 = 1) ∧ (kd 8 = 7) ∧ (((M.1 8 0 1) < (150 : Int32)) → (kd 0 = 1) ∧ (kd 8 = 7) ∧ ∃ b2 : List Int, (RpB (M.1 8) b2) ∧ (b2.length < 150) ∧ (0 ≤ c.toInt ∧ c.toInt ≤ 127) ∧ ∀ v2 : Int32, (v2.toInt = (b2.length : Int) + 1) → ∀ S2 : zB, (RpB S2 (b2 ++ [c.toInt])) → ∀ M2 : zM, (M2 = zbs M 8 S2) → K (some (zI (v2))) M2) ∧ ((¬ (M.1 8 0 1) < (150 : Int32)) → (kd 0 = 1) ∧ ∃ s3 : St, (RpX kd M s3) ∧ ∃ k3 : Nat, (k3 < 3 ∧ (-4 : Int32).toInt = -2 - (k3 : Int)) ∧ ∀ v3 : Int32, (v3 = (-4 : Int32)) → ∀ M3 : zM, (RpX kd M3 (sRf s3 k3)) → (fr9 M M3) → K (some (zI (v3))) M3)) ∧ ((v1 = 0) → (kd 0 = 1) ∧ ∃ s4 : St, (RpX kd M s4) ∧ ∃ k4 : Nat, (k4 < 3 ∧ (-2 : Int32).toInt = -2 - (k4 : Int)) ∧ ∀ v4 : Int32, (v4 = (-2 : Int32)) → ∀ M4 : zM, (RpX kd M4 (sRf s4 k4)) → (fr9 M M4) → K (some (zI (v4))) M4) from fun v1 => have h := h v1; fun q => have h := h q; ⟨fun q => have h := h.1 q; ⟨hk1, ⟨hk0, ⟨fun q => have h := h.1 q; ⟨hk1, ⟨hk0, h.elim (fun b2 h => ⟨b2, ⟨h.1, have h := h.2; ⟨h.1, have h := h.2; ⟨h.1, have h := h.2; fun v2 => have h := h v2; fun q => have h := h q; fun S2 => have h := h S2; fun q => have h := h q; fun M2 => have h := h M2; fun q => have h := h q; h⟩⟩⟩⟩)⟩⟩, fun q => have h := h.2 q; ⟨hk1, h.elim (fun s3 h => ⟨s3, ⟨h.1, have h := h.2; h.elim (fun k3 h => ⟨k3, ⟨h.1, have h := h.2; fun v3 => have h := h v3; fun q => have h := h q; fun M3 => have h := h M3; fun q => have h := h q; fun q => have h := h q; h⟩⟩)⟩⟩)⟩⟩⟩⟩, fun q => have h := h.2 q; ⟨hk1, h.elim (fun s4 h => ⟨s4, ⟨h.1, have h := h.2; h.elim (fun k4 h => ⟨k4, ⟨h.1, have h := h.2; fun v4 => have h := h v4; fun q => have h := h q; fun M4 => have h := h M4; fun q => have h := h q; fun q => have h := h q; h⟩⟩)⟩⟩)⟩⟩)
def sp_X7_clear : zSpec := fun kd as M K => match as with
  | [.inr (.inr (.inl (0, 0)))] => (kd 0 = 1) ∧ (KdX kd) ∧ ∃ s : St, (RpX kd M s) ∧ ∀ v : Int32, (v.toInt = (ev_clear s).1) → ∀ M' : zM, (RpX kd M' (ev_clear s).2) → (fr9 M M') → K (some (.inl v)) M'
  | _ => False
theorem rv_X7_clear : zrv sp_X7_clear 1 0 := by
  intro kd as M K h
  unfold sp_X7_clear at h
  split at h
  · exact ⟨_, _, rfl, h.1⟩
  · exact h.elim
theorem dd_X7_clear_0 : decode cX7_clear 0 = .ok (.aload_n 0, 1) := by decide +kernel
theorem dd_X7_clear_1 : decode cX7_clear 1 = .ok (.getfield 37, 3) := by decide +kernel
theorem dd_X7_clear_4 : decode cX7_clear 4 = .ok (.invokevirtual 118, 3) := by decide +kernel
theorem dd_X7_clear_7 : decode cX7_clear 7 = .ok (.ireturn, 1) := by decide +kernel
def tb_X7_clear (kd : Nat → Nat) (K : zK) : zTab := [(0, zt_aload 0 1), (1, zt_getR kd 1 8 0 4), (4, zt_call kd sp_X5_empty 1 7), (7, zt_iret K)]
set_option maxRecDepth 20000 in
theorem tk_X7_clear (d : Nat) (h_X5_empty : zMS 1 yX5_empty cX5_empty 2 (some .int) sp_X5_empty) : zTrue RX7 cX7_clear 1 (some .int) (d + 2) (fun kd K => tb_X7_clear kd K) := by
  intro p l e R s m args below meth c D cy A ad bl Qm K C0 hr hlocks hQ
  obtain ⟨hx, hb, hml, hown, hts, hK, hD, hA0, hN, hE, ⟨hR1, hR2⟩, hc1, hc2⟩ := id C0
  unfold tb_X7_clear
  refine List.forall_mem_cons.mpr ⟨ok_aload_n hx hb rfl dd_X7_clear_0, ?_⟩
  refine List.forall_mem_cons.mpr ⟨ok_getR (j := 4) hx hb hts zi_X7 hown hK zc_X7 (by decide) rfl (fun t fl h => by cases h; rfl) (hts _ wd_275) dd_X7_clear_1, ?_⟩
  refine List.forall_mem_cons.mpr ⟨ok_callVN (n := 0) zc_X5 rv_X5_empty C0 (h_X5_empty (d + 1) (by omega)) (by decide) wd_406 nd_403 wd_405 wd_15 wd_106 ⟨by decide +kernel, by decide +kernel, by decide +kernel⟩ dd_X7_clear_4, ?_⟩
  refine List.forall_mem_cons.mpr ⟨ok_iret hx hb hr hlocks hQ dd_X7_clear_7, ?_⟩
  exact fun _ h => absurd h List.not_mem_nil
set_option maxRecDepth 100000 in
theorem vc_X7_clear_0 {kd : Nat → Nat} {K : zK} {X : zX} (hX : ∀ (n pc : Nat) (ls : zLS) (st : List zV) (M : zM), zrun (tb_X7_clear kd K) [] n X pc ls st M → X pc ls st M)  {M : zM} (hk0 : kd 8 = 7) (hk1 : kd 0 = 1) (h : ∃ b1 : List Int, (RpB (M.1 8) b1) ∧ ∀ v1 : Int32, (v1.toInt = (b1.length : Int)) → ∀ S1 : zB, (RpB S1 []) → ∀ M1 : zM, (M1 = zbs M 8 S1) → K (some (zI (v1))) M1) : X 0 [some (zR 0 0)] [] M := hX 5 0 _ [] M (show (kd 0 = 1) ∧ (kd 8 = 7) ∧ ∃ b1 : List Int, (RpB (M.1 8) b1) ∧ ∀ v1 : Int32, (v1.toInt = (b1.length : Int)) → ∀ S1 : zB, (RpB S1 []) → ∀ M1 : zM, (M1 = zbs M 8 S1) → K (some (zI (v1))) M1 from ⟨hk1, ⟨hk0, h.elim (fun b1 h => ⟨b1, ⟨h.1, have h := h.2; fun v1 => have h := h v1; fun q => have h := h q; fun S1 => have h := h S1; fun q => have h := h q; fun M1 => have h := h M1; fun q => have h := h q; h⟩⟩)⟩⟩)
def sp_X7_read : zSpec := fun kd as M K => match as with
  | [.inr (.inr (.inl (0, 0)))] => (kd 0 = 1) ∧ (KdX kd) ∧ ∃ s : St, (RpX kd M s) ∧ ∀ v : Int32, (v.toInt = (ev_read s).1) → ∀ M' : zM, (RpX kd M' (ev_read s).2) → (fr9 M M') → K (some (.inl v)) M'
  | _ => False
theorem rv_X7_read : zrv sp_X7_read 1 0 := by
  intro kd as M K h
  unfold sp_X7_read at h
  split at h
  · exact ⟨_, _, rfl, h.1⟩
  · exact h.elim
theorem dd_X7_read_0 : decode cX7_read 0 = .ok (.aload_n 0, 1) := by decide +kernel
theorem dd_X7_read_1 : decode cX7_read 1 = .ok (.getfield 37, 3) := by decide +kernel
theorem dd_X7_read_4 : decode cX7_read 4 = .ok (.aload_n 0, 1) := by decide +kernel
theorem dd_X7_read_5 : decode cX7_read 5 = .ok (.getfield 23, 3) := by decide +kernel
theorem dd_X7_read_8 : decode cX7_read 8 = .ok (.invokestatic 121, 3) := by decide +kernel
theorem dd_X7_read_11 : decode cX7_read 11 = .ok (.istore_n 1, 1) := by decide +kernel
theorem dd_X7_read_12 : decode cX7_read 12 = .ok (.iload_n 1, 1) := by decide +kernel
theorem dd_X7_read_13 : decode cX7_read 13 = .ok (.iconst (-1), 1) := by decide +kernel
theorem dd_X7_read_14 : decode cX7_read 14 = .ok (.if_icmp .ne 14, 3) := by decide +kernel
theorem dd_X7_read_17 : decode cX7_read 17 = .ok (.bipush (-10), 2) := by decide +kernel
theorem dd_X7_read_19 : decode cX7_read 19 = .ok (.aload_n 0, 1) := by decide +kernel
theorem dd_X7_read_20 : decode cX7_read 20 = .ok (.getfield 37, 3) := by decide +kernel
theorem dd_X7_read_23 : decode cX7_read 23 = .ok (.getfield 127, 3) := by decide +kernel
theorem dd_X7_read_26 : decode cX7_read 26 = .ok (.isub, 1) := by decide +kernel
theorem dd_X7_read_27 : decode cX7_read 27 = .ok (.ireturn, 1) := by decide +kernel
theorem dd_X7_read_28 : decode cX7_read 28 = .ok (.aload_n 0, 1) := by decide +kernel
theorem dd_X7_read_29 : decode cX7_read 29 = .ok (.getfield 12, 3) := by decide +kernel
theorem dd_X7_read_32 : decode cX7_read 32 = .ok (.invokevirtual 59, 3) := by decide +kernel
theorem dd_X7_read_35 : decode cX7_read 35 = .ok (.aload_n 0, 1) := by decide +kernel
theorem dd_X7_read_36 : decode cX7_read 36 = .ok (.getfield 12, 3) := by decide +kernel
theorem dd_X7_read_39 : decode cX7_read 39 = .ok (.getfield 52, 3) := by decide +kernel
theorem dd_X7_read_42 : decode cX7_read 42 = .ok (.aload_n 0, 1) := by decide +kernel
theorem dd_X7_read_43 : decode cX7_read 43 = .ok (.getfield 23, 3) := by decide +kernel
theorem dd_X7_read_46 : decode cX7_read 46 = .ok (.invokevirtual 130, 3) := by decide +kernel
theorem dd_X7_read_49 : decode cX7_read 49 = .ok (.iload_n 1, 1) := by decide +kernel
theorem dd_X7_read_50 : decode cX7_read 50 = .ok (.ireturn, 1) := by decide +kernel
def tb_X7_read (kd : Nat → Nat) (K : zK) : zTab := [(0, zt_aload 0 1), (1, zt_getR kd 1 8 0 4), (4, zt_aload 0 5), (5, zt_getR kd 1 5 0 8), (8, zt_call kd sp_X1_rollInto 2 11), (11, zt_istore 1 12), (12, zt_iload 1 13), (13, zt_const (zI (-1)) 14), (14, zt_icmp (fun x y => ¬ x = y) (fun x y => x = y) 28 17), (17, zt_const (zI (-10)) 19), (19, zt_aload 0 20), (20, zt_getR kd 1 8 0 23), (23, zt_getI kd 7 3 26), (26, zt_bin (fun x y => x - y) 27), (27, zt_iret K), (28, zt_aload 0 29), (29, zt_getR kd 1 1 0 32), (32, zt_call kd sp_X2_wipe 1 35), (35, zt_aload 0 36), (36, zt_getR kd 1 1 0 39), (39, zt_getR kd 2 1 0 42), (42, zt_aload 0 43), (43, zt_getR kd 1 5 0 46), (46, zt_call kd sp_X3_take 2 49), (49, zt_iload 1 50), (50, zt_iret K)]
set_option maxRecDepth 20000 in
theorem tk_X7_read (d : Nat) (h_X1_rollInto : zMS 7 yX1_rollInto cX1_rollInto 3 (some .int) sp_X1_rollInto) (h_X2_wipe : zMS 2 yX2_wipe cX2_wipe 1 none sp_X2_wipe) (h_X3_take : zMS 1 yX3_take cX3_take 2 none sp_X3_take) : zTrue RX7 cX7_read 2 (some .int) (d + 8) (fun kd K => tb_X7_read kd K) := by
  intro p l e R s m args below meth c D cy A ad bl Qm K C0 hr hlocks hQ
  obtain ⟨hx, hb, hml, hown, hts, hK, hD, hA0, hN, hE, ⟨hR1, hR2⟩, hc1, hc2⟩ := id C0
  unfold tb_X7_read
  refine List.forall_mem_cons.mpr ⟨ok_aload_n hx hb rfl dd_X7_read_0, ?_⟩
  refine List.forall_mem_cons.mpr ⟨ok_getR (j := 4) hx hb hts zi_X7 hown hK zc_X7 (by decide) rfl (fun t fl h => by cases h; rfl) (hts _ wd_275) dd_X7_read_1, ?_⟩
  refine List.forall_mem_cons.mpr ⟨ok_aload_n hx hb rfl dd_X7_read_4, ?_⟩
  refine List.forall_mem_cons.mpr ⟨ok_getR (j := 2) hx hb hts zi_X7 hown hK zc_X7 (by decide) rfl (fun t fl h => by cases h; rfl) (hts _ wd_273) dd_X7_read_5, ?_⟩
  refine List.forall_mem_cons.mpr ⟨ok_callSN (n := 2) C0 (h_X1_rollInto (d + 7) (by omega)) (by decide) wd_413 nd_411 wd_412 wd_110 ⟨by decide +kernel, by decide +kernel, by decide +kernel⟩ dd_X7_read_8, ?_⟩
  refine List.forall_mem_cons.mpr ⟨ok_istore_n hx hb rfl dd_X7_read_11, ?_⟩
  refine List.forall_mem_cons.mpr ⟨ok_iload_n hx hb rfl dd_X7_read_12, ?_⟩
  refine List.forall_mem_cons.mpr ⟨ok_iconst hx hb dd_X7_read_13 (by decide), ?_⟩
  refine List.forall_mem_cons.mpr ⟨ok_icmp_ne hx hb dd_X7_read_14 (by decide), ?_⟩
  refine List.forall_mem_cons.mpr ⟨ok_bipush hx hb dd_X7_read_17 (by decide), ?_⟩
  refine List.forall_mem_cons.mpr ⟨ok_aload_n hx hb rfl dd_X7_read_19, ?_⟩
  refine List.forall_mem_cons.mpr ⟨ok_getR (j := 4) hx hb hts zi_X7 hown hK zc_X7 (by decide) rfl (fun t fl h => by cases h; rfl) (hts _ wd_275) dd_X7_read_20, ?_⟩
  refine List.forall_mem_cons.mpr ⟨ok_getIN (j := 3) hx hb hts zi_X5 hown hK zc_X5 (by decide) rfl (fun t fl h => by cases h; rfl) (va_Nw.use rfl (hN _ nd_252)) dd_X7_read_23, ?_⟩
  refine List.forall_mem_cons.mpr ⟨ok_isub hx hb dd_X7_read_26, ?_⟩
  refine List.forall_mem_cons.mpr ⟨ok_iret hx hb hr hlocks hQ dd_X7_read_27, ?_⟩
  refine List.forall_mem_cons.mpr ⟨ok_aload_n hx hb rfl dd_X7_read_28, ?_⟩
  refine List.forall_mem_cons.mpr ⟨ok_getR (j := 0) hx hb hts zi_X7 hown hK zc_X7 (by decide) rfl (fun t fl h => by cases h; rfl) (hts _ wd_271) dd_X7_read_29, ?_⟩
  refine List.forall_mem_cons.mpr ⟨ok_callVN (n := 0) zc_X2 rv_X2_wipe C0 (h_X2_wipe (d + 7) (by omega)) (by decide) wd_307 nd_304 wd_306 wd_1 wd_101 ⟨by decide +kernel, by decide +kernel, by decide +kernel⟩ dd_X7_read_32, ?_⟩
  refine List.forall_mem_cons.mpr ⟨ok_aload_n hx hb rfl dd_X7_read_35, ?_⟩
  refine List.forall_mem_cons.mpr ⟨ok_getR (j := 0) hx hb hts zi_X7 hown hK zc_X7 (by decide) rfl (fun t fl h => by cases h; rfl) (hts _ wd_271) dd_X7_read_36, ?_⟩
  refine List.forall_mem_cons.mpr ⟨ok_getRN (j := 0) hx hb hts zi_X2 hown hK zc_X2 (by decide) rfl (fun t fl h => by cases h; rfl) (va_Nw.use rfl (hN _ nd_201)) dd_X7_read_39, ?_⟩
  refine List.forall_mem_cons.mpr ⟨ok_aload_n hx hb rfl dd_X7_read_42, ?_⟩
  refine List.forall_mem_cons.mpr ⟨ok_getR (j := 2) hx hb hts zi_X7 hown hK zc_X7 (by decide) rfl (fun t fl h => by cases h; rfl) (hts _ wd_273) dd_X7_read_43, ?_⟩
  refine List.forall_mem_cons.mpr ⟨ok_callVN (n := 1) zc_X3 rv_X3_take C0 (h_X3_take (d + 7) (by omega)) (by decide) wd_525 nd_522 wd_524 wd_22 wd_102 ⟨by decide +kernel, by decide +kernel, by decide +kernel⟩ dd_X7_read_46, ?_⟩
  refine List.forall_mem_cons.mpr ⟨ok_iload_n hx hb rfl dd_X7_read_49, ?_⟩
  refine List.forall_mem_cons.mpr ⟨ok_iret hx hb hr hlocks hQ dd_X7_read_50, ?_⟩
  exact fun _ h => absurd h List.not_mem_nil
set_option maxRecDepth 100000 in
theorem vc_X7_read_0 {kd : Nat → Nat} {K : zK} {X : zX} (hX : ∀ (n pc : Nat) (ls : zLS) (st : List zV) (M : zM), zrun (tb_X7_read kd K) [] n X pc ls st M → X pc ls st M)  {M : zM} (hk0 : kd 5 = 3) (hk1 : kd 2 = 3) (hk2 : kd 0 = 1) (hk3 : kd 1 = 2) (hk4 : kd (1 + 3) = 5) (hk5 : kd (1 + 2) = 4) (hk6 : kd (1 + 1) = 3) (hk7 : kd 8 = 7) (h : ∃ b1 : List Int, (RpB (M.1 8) b1) ∧ ∀ v1 : Int32, (v1.toInt = (rdAll b1).1) → ∀ S11 : zB, (RpK S11 b1 (rdAll b1).2.1) → ∀ S21 : zB, (RpS S21 (rdAll b1).2.2) → ∀ M1 : zM, (M1 = zbs (zbs M 8 S11) 5 S21) → ((¬ v1 = (-1 : Int32)) → ∀ S12 : zB, (RpS S12 sk_0) → ∀ S22 : zB, (RpT S22 []) → ∀ S32 : zB, (RpL S32 []) → ∀ M2 : zM, (M2 = zbs (zbs (zbs M1 (1 + 1) S12) (1 + 2) S22) (1 + 3) S32) → (¬ 2 = 5) ∧ ∃ a3 : Sk, (RpS (M2.1 5) a3) ∧ ∀ S3 : zB, (RpS S3 (a3)) → ∀ M3 : zM, (M3 = zbs M2 2 S3) → K (some (zI (v1))) M3) ∧ ((v1 = (-1 : Int32)) → K (some (zI ((-10 : Int32) - (M1.1 8 0 3)))) M1)) : X 0 [some (zR 0 0), none] [] M := hX 21 0 _ [] M (show (kd 0 = 1) ∧ (kd 0 = 1) ∧ (kd 8 = 7) ∧ (kd 5 = 3) ∧ ∃ b1 : List Int, (RpB (M.1 8) b1) ∧ ∀ v1 : Int32, (v1.toInt = (rdAll b1).1) → ∀ S11 : zB, (RpK S11 b1 (rdAll b1).2.1) → ∀ S21 : zB, (RpS S21 (rdAll b1).2.2) → ∀ M1 : zM, (M1 = zbs (zbs M 8 S11) 5 S21) → ((¬ v1 = (-1 : Int32)) → (kd 0 = 1) ∧ (kd 1 = 2) ∧ (kd (1 + 1) = 3) ∧ (kd (1 + 2) = 4) ∧ (kd (1 + 3) = 5) ∧ ∀ S12 : zB, (RpS S12 sk_0) → ∀ S22 : zB, (RpT S22 []) → ∀ S32 : zB, (RpL S32 []) → ∀ M2 : zM, (M2 = zbs (zbs (zbs M1 (1 + 1) S12) (1 + 2) S22) (1 + 3) S32) → (kd 0 = 1) ∧ (kd 1 = 2) ∧ (kd 0 = 1) ∧ (kd 2 = 3) ∧ (kd 5 = 3) ∧ (¬ 2 = 5) ∧ ∃ a3 : Sk, (RpS (M2.1 5) a3) ∧ ∀ S3 : zB, (RpS S3 (a3)) → ∀ M3 : zM, (M3 = zbs M2 2 S3) → K (some (zI (v1))) M3) ∧ ((v1 = (-1 : Int32)) → (kd 0 = 1) ∧ (kd 8 = 7) ∧ K (some (zI ((-10 : Int32) - (M1.1 8 0 3)))) M1) from ⟨hk2, ⟨hk2, ⟨hk7, ⟨hk0, h.elim (fun b1 h => ⟨b1, ⟨h.1, have h := h.2; fun v1 => have h := h v1; fun q => have h := h q; fun S11 => have h := h S11; fun q => have h := h q; fun S21 => have h := h S21; fun q => have h := h q; fun M1 => have h := h M1; fun q => have h := h q; ⟨fun q => have h := h.1 q; ⟨hk2, ⟨hk3, ⟨hk6, ⟨hk5, ⟨hk4, fun S12 => have h := h S12; fun q => have h := h q; fun S22 => have h := h S22; fun q => have h := h q; fun S32 => have h := h S32; fun q => have h := h q; fun M2 => have h := h M2; fun q => have h := h q; ⟨hk2, ⟨hk3, ⟨hk2, ⟨hk1, ⟨hk0, ⟨h.1, have h := h.2; h.elim (fun a3 h => ⟨a3, ⟨h.1, have h := h.2; fun S3 => have h := h S3; fun q => have h := h q; fun M3 => have h := h M3; fun q => have h := h q; h⟩⟩)⟩⟩⟩⟩⟩⟩⟩⟩⟩⟩⟩, fun q => have h := h.2 q; ⟨hk2, ⟨hk7, h⟩⟩⟩⟩⟩)⟩⟩⟩⟩)
def sp_X7_layers : zSpec := fun kd as M K => match as with
  | [.inr (.inr (.inl (0, 0))), .inl c] => (kd 0 = 1) ∧ (KdX kd) ∧ ∃ s : St, (RpX kd M s) ∧ ∀ v : Int32, (v.toInt = (ev_layers s c.toInt).1) → ∀ M' : zM, (RpX kd M' (ev_layers s c.toInt).2) → (fr9 M M') → K (some (.inl v)) M'
  | _ => False
theorem rv_X7_layers : zrv sp_X7_layers 1 1 := by
  intro kd as M K h
  unfold sp_X7_layers at h
  split at h
  · exact ⟨_, _, rfl, h.1⟩
  · exact h.elim
theorem dd_X7_layers_0 : decode cX7_layers 0 = .ok (.iload_n 1, 1) := by decide +kernel
theorem dd_X7_layers_1 : decode cX7_layers 1 = .ok (.invokestatic 62, 3) := by decide +kernel
theorem dd_X7_layers_4 : decode cX7_layers 4 = .ok (.ifCond .eq 18, 3) := by decide +kernel
theorem dd_X7_layers_7 : decode cX7_layers 7 = .ok (.aload_n 0, 1) := by decide +kernel
theorem dd_X7_layers_8 : decode cX7_layers 8 = .ok (.getfield 12, 3) := by decide +kernel
theorem dd_X7_layers_11 : decode cX7_layers 11 = .ok (.getfield 52, 3) := by decide +kernel
theorem dd_X7_layers_14 : decode cX7_layers 14 = .ok (.getfield 134, 3) := by decide +kernel
theorem dd_X7_layers_17 : decode cX7_layers 17 = .ok (.iload_n 1, 1) := by decide +kernel
theorem dd_X7_layers_18 : decode cX7_layers 18 = .ok (.iaload, 1) := by decide +kernel
theorem dd_X7_layers_19 : decode cX7_layers 19 = .ok (.goto 9, 3) := by decide +kernel
theorem dd_X7_layers_22 : decode cX7_layers 22 = .ok (.aload_n 0, 1) := by decide +kernel
theorem dd_X7_layers_23 : decode cX7_layers 23 = .ok (.bipush (-2), 2) := by decide +kernel
theorem dd_X7_layers_25 : decode cX7_layers 25 = .ok (.invokevirtual 73, 3) := by decide +kernel
theorem dd_X7_layers_28 : decode cX7_layers 28 = .ok (.ireturn, 1) := by decide +kernel
def tb_X7_layers (kd : Nat → Nat) (K : zK) : zTab := [(0, zt_iload 1 1), (1, zt_call kd sp_X7_isCell 1 4), (4, zt_if (fun x => x = 0) (fun x => ¬ x = 0) 22 7), (7, zt_aload 0 8), (8, zt_getR kd 1 1 0 11), (11, zt_getR kd 2 1 0 14), (14, zt_getR kd 3 0 1 17), (17, zt_iload 1 18), (18, zt_ald kd 0 19), (19, zt_goto 28), (22, zt_aload 0 23), (23, zt_const (zI (-2)) 25), (25, zt_call kd sp_X7_refuse 2 28), (28, zt_iret K)]
set_option maxRecDepth 20000 in
theorem tk_X7_layers (d : Nat) (h_X7_isCell : zMS 1 yX7_isCell cX7_isCell 1 (some .boolean) sp_X7_isCell) (h_X7_refuse : zMS 2 yX7_refuse cX7_refuse 3 (some .int) sp_X7_refuse) : zTrue RX7 cX7_layers 2 (some .int) (d + 3) (fun kd K => tb_X7_layers kd K) := by
  intro p l e R s m args below meth c D cy A ad bl Qm K C0 hr hlocks hQ
  obtain ⟨hx, hb, hml, hown, hts, hK, hD, hA0, hN, hE, ⟨hR1, hR2⟩, hc1, hc2⟩ := id C0
  unfold tb_X7_layers
  refine List.forall_mem_cons.mpr ⟨ok_iload_n hx hb rfl dd_X7_layers_0, ?_⟩
  refine List.forall_mem_cons.mpr ⟨ok_callS (n := 1) C0 (h_X7_isCell (d + 2) (by omega)) (by decide) wd_318 wd_316 wd_317 wd_100 ⟨by decide +kernel, by decide +kernel, by decide +kernel⟩ dd_X7_layers_1, ?_⟩
  refine List.forall_mem_cons.mpr ⟨ok_if_eq hx hb dd_X7_layers_4 (by decide), ?_⟩
  refine List.forall_mem_cons.mpr ⟨ok_aload_n hx hb rfl dd_X7_layers_7, ?_⟩
  refine List.forall_mem_cons.mpr ⟨ok_getR (j := 0) hx hb hts zi_X7 hown hK zc_X7 (by decide) rfl (fun t fl h => by cases h; rfl) (hts _ wd_271) dd_X7_layers_8, ?_⟩
  refine List.forall_mem_cons.mpr ⟨ok_getRN (j := 0) hx hb hts zi_X2 hown hK zc_X2 (by decide) rfl (fun t fl h => by cases h; rfl) (va_Nw.use rfl (hN _ nd_201)) dd_X7_layers_11, ?_⟩
  refine List.forall_mem_cons.mpr ⟨ok_getRN (j := 0) hx hb hts zi_X3 hown hK zc_X3 (by decide) rfl (fun t fl h => by cases h; rfl) (va_Nw.use rfl (hN _ nd_137)) dd_X7_layers_14, ?_⟩
  refine List.forall_mem_cons.mpr ⟨ok_iload_n hx hb rfl dd_X7_layers_17, ?_⟩
  refine List.forall_mem_cons.mpr ⟨ok_ald (ty := 0) rfl hx hb hK (Or.inl ⟨rfl, rfl, dd_X7_layers_18⟩), ?_⟩
  refine List.forall_mem_cons.mpr ⟨ok_goto hx hb dd_X7_layers_19 (by decide), ?_⟩
  refine List.forall_mem_cons.mpr ⟨ok_aload_n hx hb rfl dd_X7_layers_22, ?_⟩
  refine List.forall_mem_cons.mpr ⟨ok_bipush hx hb dd_X7_layers_23 (by decide), ?_⟩
  refine List.forall_mem_cons.mpr ⟨ok_callV (n := 1) zc_X7 rv_X7_refuse C0 (h_X7_refuse (d + 2) (by omega)) (by decide) wd_328 wd_325 wd_327 wd_3 wd_100 ⟨rfl, by decide +kernel, by decide +kernel, by decide +kernel⟩ dd_X7_layers_25, ?_⟩
  refine List.forall_mem_cons.mpr ⟨ok_iret hx hb hr hlocks hQ dd_X7_layers_28, ?_⟩
  exact fun _ h => absurd h List.not_mem_nil
set_option maxRecDepth 100000 in
theorem vc_X7_layers_0 {kd : Nat → Nat} {K : zK} {X : zX} (hX : ∀ (n pc : Nat) (ls : zLS) (st : List zV) (M : zM), zrun (tb_X7_layers kd K) [] n X pc ls st M → X pc ls st M) {c : Int32} {M : zM} (hk0 : kd 0 = 1) (hk1 : kd 2 = 3) (hk2 : kd 1 = 2) (h : ∀ v1 : Int32, (v1 = zp (0 ≤ c.toInt ∧ c.toInt < 6)) → ((v1 = 0) → ∃ s2 : St, (RpX kd M s2) ∧ ∃ k2 : Nat, (k2 < 3 ∧ (-2 : Int32).toInt = -2 - (k2 : Int)) ∧ ∀ v2 : Int32, (v2 = (-2 : Int32)) → ∀ M2 : zM, (RpX kd M2 (sRf s2 k2)) → (fr9 M M2) → K (some (zI (v2))) M2) ∧ ((¬ v1 = 0) → (zin (kd 2) 1 0 c) ∧ K (some (zI (M.1 2 1 (c).toNatClampNeg))) M)) : X 0 [some (zR 0 0), some (zI (c))] [] M := hX 12 0 _ [] M (show ∀ v1 : Int32, (v1 = zp (0 ≤ c.toInt ∧ c.toInt < 6)) → ((v1 = 0) → (kd 0 = 1) ∧ ∃ s2 : St, (RpX kd M s2) ∧ ∃ k2 : Nat, (k2 < 3 ∧ (-2 : Int32).toInt = -2 - (k2 : Int)) ∧ ∀ v2 : Int32, (v2 = (-2 : Int32)) → ∀ M2 : zM, (RpX kd M2 (sRf s2 k2)) → (fr9 M M2) → K (some (zI (v2))) M2) ∧ ((¬ v1 = 0) → (kd 0 = 1) ∧ (kd 1 = 2) ∧ (kd 2 = 3) ∧ (zin (kd 2) 1 0 c) ∧ K (some (zI (M.1 2 1 (c).toNatClampNeg))) M) from fun v1 => have h := h v1; fun q => have h := h q; ⟨fun q => have h := h.1 q; ⟨hk0, h.elim (fun s2 h => ⟨s2, ⟨h.1, have h := h.2; h.elim (fun k2 h => ⟨k2, ⟨h.1, have h := h.2; fun v2 => have h := h v2; fun q => have h := h q; fun M2 => have h := h M2; fun q => have h := h q; fun q => have h := h q; h⟩⟩)⟩⟩)⟩, fun q => have h := h.2 q; ⟨hk0, ⟨hk2, ⟨hk1, ⟨h.1, have h := h.2; h⟩⟩⟩⟩⟩)
def sp_X7_of : zSpec := fun kd as M K => match as with
  | [.inr (.inr (.inl (0, 0))), .inl c, .inl i, .inl w] => (kd 0 = 1) ∧ (KdX kd) ∧ ∃ s : St, (RpX kd M s) ∧ ∀ v : Int32, (v.toInt = (ev_of s c.toInt i.toInt w.toInt).1) → ∀ M' : zM, (RpX kd M' (ev_of s c.toInt i.toInt w.toInt).2) → (fr9 M M') → K (some (.inl v)) M'
  | _ => False
theorem rv_X7_of : zrv sp_X7_of 1 3 := by
  intro kd as M K h
  unfold sp_X7_of at h
  split at h
  · exact ⟨_, _, rfl, h.1⟩
  · exact h.elim
theorem dd_X7_of_0 : decode cX7_of 0 = .ok (.aload_n 0, 1) := by decide +kernel
theorem dd_X7_of_1 : decode cX7_of 1 = .ok (.getfield 12, 3) := by decide +kernel
theorem dd_X7_of_4 : decode cX7_of 4 = .ok (.getfield 52, 3) := by decide +kernel
theorem dd_X7_of_7 : decode cX7_of 7 = .ok (.iload_n 1, 1) := by decide +kernel
theorem dd_X7_of_8 : decode cX7_of 8 = .ok (.iload_n 2, 1) := by decide +kernel
theorem dd_X7_of_9 : decode cX7_of 9 = .ok (.invokevirtual 137, 3) := by decide +kernel
theorem dd_X7_of_12 : decode cX7_of 12 = .ok (.istore 4, 2) := by decide +kernel
theorem dd_X7_of_14 : decode cX7_of 14 = .ok (.iload 4, 2) := by decide +kernel
theorem dd_X7_of_16 : decode cX7_of 16 = .ok (.iconst (-1), 1) := by decide +kernel
theorem dd_X7_of_17 : decode cX7_of 17 = .ok (.if_icmp .eq 12, 3) := by decide +kernel
theorem dd_X7_of_20 : decode cX7_of 20 = .ok (.iload_n 3, 1) := by decide +kernel
theorem dd_X7_of_21 : decode cX7_of 21 = .ok (.iconst 0, 1) := by decide +kernel
theorem dd_X7_of_22 : decode cX7_of 22 = .ok (.iconst 4, 1) := by decide +kernel
theorem dd_X7_of_23 : decode cX7_of 23 = .ok (.invokestatic 66, 3) := by decide +kernel
theorem dd_X7_of_26 : decode cX7_of 26 = .ok (.ifCond .ne 13, 3) := by decide +kernel
theorem dd_X7_of_29 : decode cX7_of 29 = .ok (.aload_n 0, 1) := by decide +kernel
theorem dd_X7_of_30 : decode cX7_of 30 = .ok (.bipush (-2), 2) := by decide +kernel
theorem dd_X7_of_32 : decode cX7_of 32 = .ok (.invokevirtual 73, 3) := by decide +kernel
theorem dd_X7_of_35 : decode cX7_of 35 = .ok (.pop, 1) := by decide +kernel
theorem dd_X7_of_36 : decode cX7_of 36 = .ok (.bipush (-10), 2) := by decide +kernel
theorem dd_X7_of_38 : decode cX7_of 38 = .ok (.ireturn, 1) := by decide +kernel
theorem dd_X7_of_39 : decode cX7_of 39 = .ok (.aload_n 0, 1) := by decide +kernel
theorem dd_X7_of_40 : decode cX7_of 40 = .ok (.getfield 12, 3) := by decide +kernel
theorem dd_X7_of_43 : decode cX7_of 43 = .ok (.getfield 52, 3) := by decide +kernel
theorem dd_X7_of_46 : decode cX7_of 46 = .ok (.iload 4, 2) := by decide +kernel
theorem dd_X7_of_48 : decode cX7_of 48 = .ok (.iload_n 3, 1) := by decide +kernel
theorem dd_X7_of_49 : decode cX7_of 49 = .ok (.invokevirtual 141, 3) := by decide +kernel
theorem dd_X7_of_52 : decode cX7_of 52 = .ok (.ireturn, 1) := by decide +kernel
def tb_X7_of (kd : Nat → Nat) (K : zK) : zTab := [(0, zt_aload 0 1), (1, zt_getR kd 1 1 0 4), (4, zt_getR kd 2 1 0 7), (7, zt_iload 1 8), (8, zt_iload 2 9), (9, zt_call kd sp_X3_slot 3 12), (12, zt_istore 4 14), (14, zt_iload 4 16), (16, zt_const (zI (-1)) 17), (17, zt_icmp (fun x y => x = y) (fun x y => ¬ x = y) 29 20), (20, zt_iload 3 21), (21, zt_const (zI 0) 22), (22, zt_const (zI 4) 23), (23, zt_call kd sp_X7_within 3 26), (26, zt_if (fun x => ¬ x = 0) (fun x => x = 0) 39 29), (29, zt_aload 0 30), (30, zt_const (zI (-2)) 32), (32, zt_call kd sp_X7_refuse 2 35), (35, zt_pop 36), (36, zt_const (zI (-10)) 38), (38, zt_iret K), (39, zt_aload 0 40), (40, zt_getR kd 1 1 0 43), (43, zt_getR kd 2 1 0 46), (46, zt_iload 4 48), (48, zt_iload 3 49), (49, zt_call kd sp_X3_field 3 52), (52, zt_iret K)]
set_option maxRecDepth 20000 in
theorem tk_X7_of (d : Nat) (h_X3_slot : zMS 1 yX3_slot cX3_slot 3 (some .int) sp_X3_slot) (h_X7_within : zMS 1 yX7_within cX7_within 3 (some .boolean) sp_X7_within) (h_X7_refuse : zMS 2 yX7_refuse cX7_refuse 3 (some .int) sp_X7_refuse) (h_X3_field : zMS 1 yX3_field cX3_field 3 (some .int) sp_X3_field) : zTrue RX7 cX7_of 5 (some .int) (d + 3) (fun kd K => tb_X7_of kd K) := by
  intro p l e R s m args below meth c D cy A ad bl Qm K C0 hr hlocks hQ
  obtain ⟨hx, hb, hml, hown, hts, hK, hD, hA0, hN, hE, ⟨hR1, hR2⟩, hc1, hc2⟩ := id C0
  unfold tb_X7_of
  refine List.forall_mem_cons.mpr ⟨ok_aload_n hx hb rfl dd_X7_of_0, ?_⟩
  refine List.forall_mem_cons.mpr ⟨ok_getR (j := 0) hx hb hts zi_X7 hown hK zc_X7 (by decide) rfl (fun t fl h => by cases h; rfl) (hts _ wd_271) dd_X7_of_1, ?_⟩
  refine List.forall_mem_cons.mpr ⟨ok_getRN (j := 0) hx hb hts zi_X2 hown hK zc_X2 (by decide) rfl (fun t fl h => by cases h; rfl) (va_Nw.use rfl (hN _ nd_201)) dd_X7_of_4, ?_⟩
  refine List.forall_mem_cons.mpr ⟨ok_iload_n hx hb rfl dd_X7_of_7, ?_⟩
  refine List.forall_mem_cons.mpr ⟨ok_iload_n hx hb rfl dd_X7_of_8, ?_⟩
  refine List.forall_mem_cons.mpr ⟨ok_callVN (n := 2) zc_X3 rv_X3_slot C0 (h_X3_slot (d + 2) (by omega)) (by decide) wd_341 nd_535 wd_340 wd_6 wd_102 ⟨by decide +kernel, by decide +kernel, by decide +kernel⟩ dd_X7_of_9, ?_⟩
  refine List.forall_mem_cons.mpr ⟨ok_istore hx hb dd_X7_of_12, ?_⟩
  refine List.forall_mem_cons.mpr ⟨ok_iload hx hb dd_X7_of_14, ?_⟩
  refine List.forall_mem_cons.mpr ⟨ok_iconst hx hb dd_X7_of_16 (by decide), ?_⟩
  refine List.forall_mem_cons.mpr ⟨ok_icmp_eq hx hb dd_X7_of_17 (by decide), ?_⟩
  refine List.forall_mem_cons.mpr ⟨ok_iload_n hx hb rfl dd_X7_of_20, ?_⟩
  refine List.forall_mem_cons.mpr ⟨ok_iconst hx hb dd_X7_of_21 (by decide), ?_⟩
  refine List.forall_mem_cons.mpr ⟨ok_iconst hx hb dd_X7_of_22 (by decide), ?_⟩
  refine List.forall_mem_cons.mpr ⟨ok_callS (n := 3) C0 (h_X7_within (d + 2) (by omega)) (by decide) wd_321 wd_319 wd_320 wd_100 ⟨by decide +kernel, by decide +kernel, by decide +kernel⟩ dd_X7_of_23, ?_⟩
  refine List.forall_mem_cons.mpr ⟨ok_if_ne hx hb dd_X7_of_26 (by decide), ?_⟩
  refine List.forall_mem_cons.mpr ⟨ok_aload_n hx hb rfl dd_X7_of_29, ?_⟩
  refine List.forall_mem_cons.mpr ⟨ok_bipush hx hb dd_X7_of_30 (by decide), ?_⟩
  refine List.forall_mem_cons.mpr ⟨ok_callV (n := 1) zc_X7 rv_X7_refuse C0 (h_X7_refuse (d + 2) (by omega)) (by decide) wd_328 wd_325 wd_327 wd_3 wd_100 ⟨rfl, by decide +kernel, by decide +kernel, by decide +kernel⟩ dd_X7_of_32, ?_⟩
  refine List.forall_mem_cons.mpr ⟨ok_pop hx hb dd_X7_of_35, ?_⟩
  refine List.forall_mem_cons.mpr ⟨ok_bipush hx hb dd_X7_of_36 (by decide), ?_⟩
  refine List.forall_mem_cons.mpr ⟨ok_iret hx hb hr hlocks hQ dd_X7_of_38, ?_⟩
  refine List.forall_mem_cons.mpr ⟨ok_aload_n hx hb rfl dd_X7_of_39, ?_⟩
  refine List.forall_mem_cons.mpr ⟨ok_getR (j := 0) hx hb hts zi_X7 hown hK zc_X7 (by decide) rfl (fun t fl h => by cases h; rfl) (hts _ wd_271) dd_X7_of_40, ?_⟩
  refine List.forall_mem_cons.mpr ⟨ok_getRN (j := 0) hx hb hts zi_X2 hown hK zc_X2 (by decide) rfl (fun t fl h => by cases h; rfl) (va_Nw.use rfl (hN _ nd_201)) dd_X7_of_43, ?_⟩
  refine List.forall_mem_cons.mpr ⟨ok_iload hx hb dd_X7_of_46, ?_⟩
  refine List.forall_mem_cons.mpr ⟨ok_iload_n hx hb rfl dd_X7_of_48, ?_⟩
  refine List.forall_mem_cons.mpr ⟨ok_callVN (n := 2) zc_X3 rv_X3_field C0 (h_X3_field (d + 2) (by omega)) (by decide) wd_539 nd_536 wd_538 wd_23 wd_102 ⟨by decide +kernel, by decide +kernel, by decide +kernel⟩ dd_X7_of_49, ?_⟩
  refine List.forall_mem_cons.mpr ⟨ok_iret hx hb hr hlocks hQ dd_X7_of_52, ?_⟩
  exact fun _ h => absurd h List.not_mem_nil
set_option maxRecDepth 100000 in
theorem vc_X7_of_0 {kd : Nat → Nat} {K : zK} {X : zX} (hX : ∀ (n pc : Nat) (ls : zLS) (st : List zV) (M : zM), zrun (tb_X7_of kd K) [] n X pc ls st M → X pc ls st M) {c : Int32} {i : Int32} {w : Int32} {M : zM} (hk0 : kd 0 = 1) (hk1 : kd 2 = 3) (hk2 : kd 1 = 2) (h : ∃ a1 : Sk, (RpS (M.1 2) a1) ∧ ∀ v1 : Int32, (v1.toInt = if (sk_at a1 c.toInt i.toInt).isSome then 4 * c.toInt + i.toInt else -1) → ((v1 = (-1 : Int32)) → ∃ s2 : St, (RpX kd M s2) ∧ ∃ k2 : Nat, (k2 < 3 ∧ (-2 : Int32).toInt = -2 - (k2 : Int)) ∧ ∀ v2 : Int32, (v2 = (-2 : Int32)) → ∀ M2 : zM, (RpX kd M2 (sRf s2 k2)) → (fr9 M M2) → K (some (zI ((-10 : Int32)))) M2) ∧ ((¬ v1 = (-1 : Int32)) → ∀ v3 : Int32, (v3 = zp ((0 : Int32).toInt ≤ w.toInt ∧ w.toInt ≤ (4 : Int32).toInt)) → ((¬ v3 = 0) → ∃ a4 : Sk, (RpS (M.1 2) a4) ∧ ∃ c4 : Nat, ∃ i4 : Nat, ∃ l4 : Ly, (c4 < 6) ∧ ((a4.1 c4)[i4]? = some l4) ∧ (v1.toInt = 4 * (c4 : Int) + i4) ∧ ∀ v4 : Int32, (v4.toInt = ly_f l4 w.toInt) → K (some (zI (v4))) M) ∧ ((v3 = 0) → ∃ s5 : St, (RpX kd M s5) ∧ ∃ k5 : Nat, (k5 < 3 ∧ (-2 : Int32).toInt = -2 - (k5 : Int)) ∧ ∀ v5 : Int32, (v5 = (-2 : Int32)) → ∀ M5 : zM, (RpX kd M5 (sRf s5 k5)) → (fr9 M M5) → K (some (zI ((-10 : Int32)))) M5))) : X 0 [some (zR 0 0), some (zI (c)), some (zI (i)), some (zI (w)), none] [] M := hX 23 0 _ [] M (show (kd 0 = 1) ∧ (kd 1 = 2) ∧ (kd 2 = 3) ∧ ∃ a1 : Sk, (RpS (M.1 2) a1) ∧ ∀ v1 : Int32, (v1.toInt = if (sk_at a1 c.toInt i.toInt).isSome then 4 * c.toInt + i.toInt else -1) → ((v1 = (-1 : Int32)) → (kd 0 = 1) ∧ ∃ s2 : St, (RpX kd M s2) ∧ ∃ k2 : Nat, (k2 < 3 ∧ (-2 : Int32).toInt = -2 - (k2 : Int)) ∧ ∀ v2 : Int32, (v2 = (-2 : Int32)) → ∀ M2 : zM, (RpX kd M2 (sRf s2 k2)) → (fr9 M M2) → K (some (zI ((-10 : Int32)))) M2) ∧ ((¬ v1 = (-1 : Int32)) → ∀ v3 : Int32, (v3 = zp ((0 : Int32).toInt ≤ w.toInt ∧ w.toInt ≤ (4 : Int32).toInt)) → ((¬ v3 = 0) → (kd 0 = 1) ∧ (kd 1 = 2) ∧ (kd 2 = 3) ∧ ∃ a4 : Sk, (RpS (M.1 2) a4) ∧ ∃ c4 : Nat, ∃ i4 : Nat, ∃ l4 : Ly, (c4 < 6) ∧ ((a4.1 c4)[i4]? = some l4) ∧ (v1.toInt = 4 * (c4 : Int) + i4) ∧ ∀ v4 : Int32, (v4.toInt = ly_f l4 w.toInt) → K (some (zI (v4))) M) ∧ ((v3 = 0) → (kd 0 = 1) ∧ ∃ s5 : St, (RpX kd M s5) ∧ ∃ k5 : Nat, (k5 < 3 ∧ (-2 : Int32).toInt = -2 - (k5 : Int)) ∧ ∀ v5 : Int32, (v5 = (-2 : Int32)) → ∀ M5 : zM, (RpX kd M5 (sRf s5 k5)) → (fr9 M M5) → K (some (zI ((-10 : Int32)))) M5)) from ⟨hk0, ⟨hk2, ⟨hk1, h.elim (fun a1 h => ⟨a1, ⟨h.1, have h := h.2; fun v1 => have h := h v1; fun q => have h := h q; ⟨fun q => have h := h.1 q; ⟨hk0, h.elim (fun s2 h => ⟨s2, ⟨h.1, have h := h.2; h.elim (fun k2 h => ⟨k2, ⟨h.1, have h := h.2; fun v2 => have h := h v2; fun q => have h := h q; fun M2 => have h := h M2; fun q => have h := h q; fun q => have h := h q; h⟩⟩)⟩⟩)⟩, fun q => have h := h.2 q; fun v3 => have h := h v3; fun q => have h := h q; ⟨fun q => have h := h.1 q; ⟨hk0, ⟨hk2, ⟨hk1, h.elim (fun a4 h => ⟨a4, ⟨h.1, have h := h.2; h.elim (fun c4 h => ⟨c4, h.elim (fun i4 h => ⟨i4, h.elim (fun l4 h => ⟨l4, ⟨h.1, have h := h.2; ⟨h.1, have h := h.2; ⟨h.1, have h := h.2; fun v4 => have h := h v4; fun q => have h := h q; h⟩⟩⟩⟩)⟩)⟩)⟩⟩)⟩⟩⟩, fun q => have h := h.2 q; ⟨hk0, h.elim (fun s5 h => ⟨s5, ⟨h.1, have h := h.2; h.elim (fun k5 h => ⟨k5, ⟨h.1, have h := h.2; fun v5 => have h := h v5; fun q => have h := h q; fun M5 => have h := h M5; fun q => have h := h q; fun q => have h := h q; h⟩⟩)⟩⟩)⟩⟩⟩⟩⟩)⟩⟩⟩)
def sp_X7_binds : zSpec := fun kd as M K => match as with
  | [.inr (.inr (.inl (0, 0))), .inl c, .inl i, .inl y] => (kd 0 = 1) ∧ (KdX kd) ∧ ∃ s : St, (RpX kd M s) ∧ ∀ v : Int32, (v.toInt = (ev_binds s c.toInt i.toInt y.toInt).1) → ∀ M' : zM, (RpX kd M' (ev_binds s c.toInt i.toInt y.toInt).2) → (fr9 M M') → K (some (.inl v)) M'
  | _ => False
theorem rv_X7_binds : zrv sp_X7_binds 1 3 := by
  intro kd as M K h
  unfold sp_X7_binds at h
  split at h
  · exact ⟨_, _, rfl, h.1⟩
  · exact h.elim
theorem dd_X7_binds_0 : decode cX7_binds 0 = .ok (.aload_n 0, 1) := by decide +kernel
theorem dd_X7_binds_1 : decode cX7_binds 1 = .ok (.getfield 12, 3) := by decide +kernel
theorem dd_X7_binds_4 : decode cX7_binds 4 = .ok (.getfield 52, 3) := by decide +kernel
theorem dd_X7_binds_7 : decode cX7_binds 7 = .ok (.iload_n 1, 1) := by decide +kernel
theorem dd_X7_binds_8 : decode cX7_binds 8 = .ok (.iload_n 2, 1) := by decide +kernel
theorem dd_X7_binds_9 : decode cX7_binds 9 = .ok (.invokevirtual 144, 3) := by decide +kernel
theorem dd_X7_binds_12 : decode cX7_binds 12 = .ok (.ifCond .eq 10, 3) := by decide +kernel
theorem dd_X7_binds_15 : decode cX7_binds 15 = .ok (.iload_n 3, 1) := by decide +kernel
theorem dd_X7_binds_16 : decode cX7_binds 16 = .ok (.invokestatic 148, 3) := by decide +kernel
theorem dd_X7_binds_19 : decode cX7_binds 19 = .ok (.ifCond .ne 10, 3) := by decide +kernel
theorem dd_X7_binds_22 : decode cX7_binds 22 = .ok (.aload_n 0, 1) := by decide +kernel
theorem dd_X7_binds_23 : decode cX7_binds 23 = .ok (.bipush (-2), 2) := by decide +kernel
theorem dd_X7_binds_25 : decode cX7_binds 25 = .ok (.invokevirtual 73, 3) := by decide +kernel
theorem dd_X7_binds_28 : decode cX7_binds 28 = .ok (.ireturn, 1) := by decide +kernel
theorem dd_X7_binds_29 : decode cX7_binds 29 = .ok (.aload_n 0, 1) := by decide +kernel
theorem dd_X7_binds_30 : decode cX7_binds 30 = .ok (.getfield 12, 3) := by decide +kernel
theorem dd_X7_binds_33 : decode cX7_binds 33 = .ok (.getfield 52, 3) := by decide +kernel
theorem dd_X7_binds_36 : decode cX7_binds 36 = .ok (.iload_n 1, 1) := by decide +kernel
theorem dd_X7_binds_37 : decode cX7_binds 37 = .ok (.iload_n 2, 1) := by decide +kernel
theorem dd_X7_binds_38 : decode cX7_binds 38 = .ok (.iload_n 3, 1) := by decide +kernel
theorem dd_X7_binds_39 : decode cX7_binds 39 = .ok (.invokevirtual 151, 3) := by decide +kernel
theorem dd_X7_binds_42 : decode cX7_binds 42 = .ok (.ifCond .eq 7, 3) := by decide +kernel
theorem dd_X7_binds_45 : decode cX7_binds 45 = .ok (.iconst 1, 1) := by decide +kernel
theorem dd_X7_binds_46 : decode cX7_binds 46 = .ok (.goto 4, 3) := by decide +kernel
theorem dd_X7_binds_49 : decode cX7_binds 49 = .ok (.iconst 0, 1) := by decide +kernel
theorem dd_X7_binds_50 : decode cX7_binds 50 = .ok (.ireturn, 1) := by decide +kernel
def tb_X7_binds (kd : Nat → Nat) (K : zK) : zTab := [(0, zt_aload 0 1), (1, zt_getR kd 1 1 0 4), (4, zt_getR kd 2 1 0 7), (7, zt_iload 1 8), (8, zt_iload 2 9), (9, zt_call kd sp_X3_has 3 12), (12, zt_if (fun x => x = 0) (fun x => ¬ x = 0) 22 15), (15, zt_iload 3 16), (16, zt_call kd sp_X7_isYear 1 19), (19, zt_if (fun x => ¬ x = 0) (fun x => x = 0) 29 22), (22, zt_aload 0 23), (23, zt_const (zI (-2)) 25), (25, zt_call kd sp_X7_refuse 2 28), (28, zt_iret K), (29, zt_aload 0 30), (30, zt_getR kd 1 1 0 33), (33, zt_getR kd 2 1 0 36), (36, zt_iload 1 37), (37, zt_iload 2 38), (38, zt_iload 3 39), (39, zt_call kd sp_X3_bound 4 42), (42, zt_if (fun x => x = 0) (fun x => ¬ x = 0) 49 45), (45, zt_const (zI 1) 46), (46, zt_goto 50), (49, zt_const (zI 0) 50), (50, zt_iret K)]
set_option maxRecDepth 20000 in
theorem tk_X7_binds (d : Nat) (h_X3_has : zMS 2 yX3_has cX3_has 3 (some .boolean) sp_X3_has) (h_X7_isYear : zMS 1 yX7_isYear cX7_isYear 1 (some .boolean) sp_X7_isYear) (h_X7_refuse : zMS 2 yX7_refuse cX7_refuse 3 (some .int) sp_X7_refuse) (h_X3_bound : zMS 4 yX3_bound cX3_bound 5 (some .boolean) sp_X3_bound) : zTrue RX7 cX7_binds 4 (some .int) (d + 5) (fun kd K => tb_X7_binds kd K) := by
  intro p l e R s m args below meth c D cy A ad bl Qm K C0 hr hlocks hQ
  obtain ⟨hx, hb, hml, hown, hts, hK, hD, hA0, hN, hE, ⟨hR1, hR2⟩, hc1, hc2⟩ := id C0
  unfold tb_X7_binds
  refine List.forall_mem_cons.mpr ⟨ok_aload_n hx hb rfl dd_X7_binds_0, ?_⟩
  refine List.forall_mem_cons.mpr ⟨ok_getR (j := 0) hx hb hts zi_X7 hown hK zc_X7 (by decide) rfl (fun t fl h => by cases h; rfl) (hts _ wd_271) dd_X7_binds_1, ?_⟩
  refine List.forall_mem_cons.mpr ⟨ok_getRN (j := 0) hx hb hts zi_X2 hown hK zc_X2 (by decide) rfl (fun t fl h => by cases h; rfl) (va_Nw.use rfl (hN _ nd_201)) dd_X7_binds_4, ?_⟩
  refine List.forall_mem_cons.mpr ⟨ok_iload_n hx hb rfl dd_X7_binds_7, ?_⟩
  refine List.forall_mem_cons.mpr ⟨ok_iload_n hx hb rfl dd_X7_binds_8, ?_⟩
  refine List.forall_mem_cons.mpr ⟨ok_callVN (n := 2) zc_X3 rv_X3_has C0 (h_X3_has (d + 4) (by omega)) (by decide) wd_547 nd_544 wd_546 wd_24 wd_102 ⟨by decide +kernel, by decide +kernel, by decide +kernel⟩ dd_X7_binds_9, ?_⟩
  refine List.forall_mem_cons.mpr ⟨ok_if_eq hx hb dd_X7_binds_12 (by decide), ?_⟩
  refine List.forall_mem_cons.mpr ⟨ok_iload_n hx hb rfl dd_X7_binds_15, ?_⟩
  refine List.forall_mem_cons.mpr ⟨ok_callS (n := 1) C0 (h_X7_isYear (d + 4) (by omega)) (by decide) wd_550 wd_548 wd_549 wd_100 ⟨by decide +kernel, by decide +kernel, by decide +kernel⟩ dd_X7_binds_16, ?_⟩
  refine List.forall_mem_cons.mpr ⟨ok_if_ne hx hb dd_X7_binds_19 (by decide), ?_⟩
  refine List.forall_mem_cons.mpr ⟨ok_aload_n hx hb rfl dd_X7_binds_22, ?_⟩
  refine List.forall_mem_cons.mpr ⟨ok_bipush hx hb dd_X7_binds_23 (by decide), ?_⟩
  refine List.forall_mem_cons.mpr ⟨ok_callV (n := 1) zc_X7 rv_X7_refuse C0 (h_X7_refuse (d + 4) (by omega)) (by decide) wd_328 wd_325 wd_327 wd_3 wd_100 ⟨rfl, by decide +kernel, by decide +kernel, by decide +kernel⟩ dd_X7_binds_25, ?_⟩
  refine List.forall_mem_cons.mpr ⟨ok_iret hx hb hr hlocks hQ dd_X7_binds_28, ?_⟩
  refine List.forall_mem_cons.mpr ⟨ok_aload_n hx hb rfl dd_X7_binds_29, ?_⟩
  refine List.forall_mem_cons.mpr ⟨ok_getR (j := 0) hx hb hts zi_X7 hown hK zc_X7 (by decide) rfl (fun t fl h => by cases h; rfl) (hts _ wd_271) dd_X7_binds_30, ?_⟩
  refine List.forall_mem_cons.mpr ⟨ok_getRN (j := 0) hx hb hts zi_X2 hown hK zc_X2 (by decide) rfl (fun t fl h => by cases h; rfl) (va_Nw.use rfl (hN _ nd_201)) dd_X7_binds_33, ?_⟩
  refine List.forall_mem_cons.mpr ⟨ok_iload_n hx hb rfl dd_X7_binds_36, ?_⟩
  refine List.forall_mem_cons.mpr ⟨ok_iload_n hx hb rfl dd_X7_binds_37, ?_⟩
  refine List.forall_mem_cons.mpr ⟨ok_iload_n hx hb rfl dd_X7_binds_38, ?_⟩
  refine List.forall_mem_cons.mpr ⟨ok_callVN (n := 3) zc_X3 rv_X3_bound C0 (h_X3_bound (d + 4) (by omega)) (by decide) wd_554 nd_551 wd_553 wd_25 wd_102 ⟨by decide +kernel, by decide +kernel, by decide +kernel⟩ dd_X7_binds_39, ?_⟩
  refine List.forall_mem_cons.mpr ⟨ok_if_eq hx hb dd_X7_binds_42 (by decide), ?_⟩
  refine List.forall_mem_cons.mpr ⟨ok_iconst hx hb dd_X7_binds_45 (by decide), ?_⟩
  refine List.forall_mem_cons.mpr ⟨ok_goto hx hb dd_X7_binds_46 (by decide), ?_⟩
  refine List.forall_mem_cons.mpr ⟨ok_iconst hx hb dd_X7_binds_49 (by decide), ?_⟩
  refine List.forall_mem_cons.mpr ⟨ok_iret hx hb hr hlocks hQ dd_X7_binds_50, ?_⟩
  exact fun _ h => absurd h List.not_mem_nil
set_option maxRecDepth 100000 in
theorem vc_X7_binds_0 {kd : Nat → Nat} {K : zK} {X : zX} (hX : ∀ (n pc : Nat) (ls : zLS) (st : List zV) (M : zM), zrun (tb_X7_binds kd K) [] n X pc ls st M → X pc ls st M) {c : Int32} {i : Int32} {y : Int32} {M : zM} (hk0 : kd 0 = 1) (hk1 : kd 2 = 3) (hk2 : kd 1 = 2) (h : ∃ a1 : Sk, (RpS (M.1 2) a1) ∧ ∀ v1 : Int32, (v1 = zp ((sk_at a1 c.toInt i.toInt).isSome = true)) → ((v1 = 0) → ∃ s2 : St, (RpX kd M s2) ∧ ∃ k2 : Nat, (k2 < 3 ∧ (-2 : Int32).toInt = -2 - (k2 : Int)) ∧ ∀ v2 : Int32, (v2 = (-2 : Int32)) → ∀ M2 : zM, (RpX kd M2 (sRf s2 k2)) → (fr9 M M2) → K (some (zI (v2))) M2) ∧ ((¬ v1 = 0) → ∀ v3 : Int32, (v3 = zp (isY y.toInt)) → ((¬ v3 = 0) → ∃ a4 : Sk, (RpS (M.1 2) a4) ∧ (0 ≤ y.toInt ∧ y.toInt < 1000000) ∧ ∀ v4 : Int32, (v4 = zp (sk_bd a4 c.toInt i.toInt y.toInt = true)) → ((v4 = 0) → K (some (zI ((0 : Int32)))) M) ∧ ((¬ v4 = 0) → K (some (zI ((1 : Int32)))) M)) ∧ ((v3 = 0) → ∃ s5 : St, (RpX kd M s5) ∧ ∃ k5 : Nat, (k5 < 3 ∧ (-2 : Int32).toInt = -2 - (k5 : Int)) ∧ ∀ v5 : Int32, (v5 = (-2 : Int32)) → ∀ M5 : zM, (RpX kd M5 (sRf s5 k5)) → (fr9 M M5) → K (some (zI (v5))) M5))) : X 0 [some (zR 0 0), some (zI (c)), some (zI (i)), some (zI (y))] [] M := hX 22 0 _ [] M (show (kd 0 = 1) ∧ (kd 1 = 2) ∧ (kd 2 = 3) ∧ ∃ a1 : Sk, (RpS (M.1 2) a1) ∧ ∀ v1 : Int32, (v1 = zp ((sk_at a1 c.toInt i.toInt).isSome = true)) → ((v1 = 0) → (kd 0 = 1) ∧ ∃ s2 : St, (RpX kd M s2) ∧ ∃ k2 : Nat, (k2 < 3 ∧ (-2 : Int32).toInt = -2 - (k2 : Int)) ∧ ∀ v2 : Int32, (v2 = (-2 : Int32)) → ∀ M2 : zM, (RpX kd M2 (sRf s2 k2)) → (fr9 M M2) → K (some (zI (v2))) M2) ∧ ((¬ v1 = 0) → ∀ v3 : Int32, (v3 = zp (isY y.toInt)) → ((¬ v3 = 0) → (kd 0 = 1) ∧ (kd 1 = 2) ∧ (kd 2 = 3) ∧ ∃ a4 : Sk, (RpS (M.1 2) a4) ∧ (0 ≤ y.toInt ∧ y.toInt < 1000000) ∧ ∀ v4 : Int32, (v4 = zp (sk_bd a4 c.toInt i.toInt y.toInt = true)) → ((v4 = 0) → K (some (zI ((0 : Int32)))) M) ∧ ((¬ v4 = 0) → K (some (zI ((1 : Int32)))) M)) ∧ ((v3 = 0) → (kd 0 = 1) ∧ ∃ s5 : St, (RpX kd M s5) ∧ ∃ k5 : Nat, (k5 < 3 ∧ (-2 : Int32).toInt = -2 - (k5 : Int)) ∧ ∀ v5 : Int32, (v5 = (-2 : Int32)) → ∀ M5 : zM, (RpX kd M5 (sRf s5 k5)) → (fr9 M M5) → K (some (zI (v5))) M5)) from ⟨hk0, ⟨hk2, ⟨hk1, h.elim (fun a1 h => ⟨a1, ⟨h.1, have h := h.2; fun v1 => have h := h v1; fun q => have h := h q; ⟨fun q => have h := h.1 q; ⟨hk0, h.elim (fun s2 h => ⟨s2, ⟨h.1, have h := h.2; h.elim (fun k2 h => ⟨k2, ⟨h.1, have h := h.2; fun v2 => have h := h v2; fun q => have h := h q; fun M2 => have h := h M2; fun q => have h := h q; fun q => have h := h q; h⟩⟩)⟩⟩)⟩, fun q => have h := h.2 q; fun v3 => have h := h v3; fun q => have h := h q; ⟨fun q => have h := h.1 q; ⟨hk0, ⟨hk2, ⟨hk1, h.elim (fun a4 h => ⟨a4, ⟨h.1, have h := h.2; ⟨h.1, have h := h.2; fun v4 => have h := h v4; fun q => have h := h q; ⟨fun q => have h := h.1 q; h, fun q => have h := h.2 q; h⟩⟩⟩⟩)⟩⟩⟩, fun q => have h := h.2 q; ⟨hk0, h.elim (fun s5 h => ⟨s5, ⟨h.1, have h := h.2; h.elim (fun k5 h => ⟨k5, ⟨h.1, have h := h.2; fun v5 => have h := h v5; fun q => have h := h q; fun M5 => have h := h M5; fun q => have h := h q; fun q => have h := h q; h⟩⟩)⟩⟩)⟩⟩⟩⟩⟩)⟩⟩⟩)
def sp_X7_rule : zSpec := fun kd as M K => match as with
  | [.inr (.inr (.inl (0, 0))), .inl g, .inl y] => (kd 0 = 1) ∧ (KdX kd) ∧ ∃ s : St, (RpX kd M s) ∧ ∀ v : Int32, (v.toInt = (ev_rule s g.toInt y.toInt).1) → ∀ M' : zM, (RpX kd M' (ev_rule s g.toInt y.toInt).2) → (fr9 M M') → K (some (.inl v)) M'
  | _ => False
theorem rv_X7_rule : zrv sp_X7_rule 1 2 := by
  intro kd as M K h
  unfold sp_X7_rule at h
  split at h
  · exact ⟨_, _, rfl, h.1⟩
  · exact h.elim
theorem dd_X7_rule_0 : decode cX7_rule 0 = .ok (.iload_n 1, 1) := by decide +kernel
theorem dd_X7_rule_1 : decode cX7_rule 1 = .ok (.invokestatic 70, 3) := by decide +kernel
theorem dd_X7_rule_4 : decode cX7_rule 4 = .ok (.ifCond .eq 25, 3) := by decide +kernel
theorem dd_X7_rule_7 : decode cX7_rule 7 = .ok (.iload_n 2, 1) := by decide +kernel
theorem dd_X7_rule_8 : decode cX7_rule 8 = .ok (.invokestatic 148, 3) := by decide +kernel
theorem dd_X7_rule_11 : decode cX7_rule 11 = .ok (.ifCond .eq 18, 3) := by decide +kernel
theorem dd_X7_rule_14 : decode cX7_rule 14 = .ok (.aload_n 0, 1) := by decide +kernel
theorem dd_X7_rule_15 : decode cX7_rule 15 = .ok (.getfield 12, 3) := by decide +kernel
theorem dd_X7_rule_18 : decode cX7_rule 18 = .ok (.getfield 52, 3) := by decide +kernel
theorem dd_X7_rule_21 : decode cX7_rule 21 = .ok (.iload_n 1, 1) := by decide +kernel
theorem dd_X7_rule_22 : decode cX7_rule 22 = .ok (.iload_n 2, 1) := by decide +kernel
theorem dd_X7_rule_23 : decode cX7_rule 23 = .ok (.invokevirtual 154, 3) := by decide +kernel
theorem dd_X7_rule_26 : decode cX7_rule 26 = .ok (.goto 9, 3) := by decide +kernel
theorem dd_X7_rule_29 : decode cX7_rule 29 = .ok (.aload_n 0, 1) := by decide +kernel
theorem dd_X7_rule_30 : decode cX7_rule 30 = .ok (.bipush (-2), 2) := by decide +kernel
theorem dd_X7_rule_32 : decode cX7_rule 32 = .ok (.invokevirtual 73, 3) := by decide +kernel
theorem dd_X7_rule_35 : decode cX7_rule 35 = .ok (.ireturn, 1) := by decide +kernel
def tb_X7_rule (kd : Nat → Nat) (K : zK) : zTab := [(0, zt_iload 1 1), (1, zt_call kd sp_X7_isThing 1 4), (4, zt_if (fun x => x = 0) (fun x => ¬ x = 0) 29 7), (7, zt_iload 2 8), (8, zt_call kd sp_X7_isYear 1 11), (11, zt_if (fun x => x = 0) (fun x => ¬ x = 0) 29 14), (14, zt_aload 0 15), (15, zt_getR kd 1 1 0 18), (18, zt_getR kd 2 1 0 21), (21, zt_iload 1 22), (22, zt_iload 2 23), (23, zt_call kd sp_X3_law 3 26), (26, zt_goto 35), (29, zt_aload 0 30), (30, zt_const (zI (-2)) 32), (32, zt_call kd sp_X7_refuse 2 35), (35, zt_iret K)]
set_option maxRecDepth 20000 in
theorem tk_X7_rule (d : Nat) (h_X7_isThing : zMS 1 yX7_isThing cX7_isThing 1 (some .boolean) sp_X7_isThing) (h_X7_isYear : zMS 1 yX7_isYear cX7_isYear 1 (some .boolean) sp_X7_isYear) (h_X3_law : zMS 5 yX3_law cX3_law 5 (some .int) sp_X3_law) (h_X7_refuse : zMS 2 yX7_refuse cX7_refuse 3 (some .int) sp_X7_refuse) : zTrue RX7 cX7_rule 3 (some .int) (d + 6) (fun kd K => tb_X7_rule kd K) := by
  intro p l e R s m args below meth c D cy A ad bl Qm K C0 hr hlocks hQ
  obtain ⟨hx, hb, hml, hown, hts, hK, hD, hA0, hN, hE, ⟨hR1, hR2⟩, hc1, hc2⟩ := id C0
  unfold tb_X7_rule
  refine List.forall_mem_cons.mpr ⟨ok_iload_n hx hb rfl dd_X7_rule_0, ?_⟩
  refine List.forall_mem_cons.mpr ⟨ok_callS (n := 1) C0 (h_X7_isThing (d + 5) (by omega)) (by decide) wd_324 wd_322 wd_323 wd_100 ⟨by decide +kernel, by decide +kernel, by decide +kernel⟩ dd_X7_rule_1, ?_⟩
  refine List.forall_mem_cons.mpr ⟨ok_if_eq hx hb dd_X7_rule_4 (by decide), ?_⟩
  refine List.forall_mem_cons.mpr ⟨ok_iload_n hx hb rfl dd_X7_rule_7, ?_⟩
  refine List.forall_mem_cons.mpr ⟨ok_callS (n := 1) C0 (h_X7_isYear (d + 5) (by omega)) (by decide) wd_550 wd_548 wd_549 wd_100 ⟨by decide +kernel, by decide +kernel, by decide +kernel⟩ dd_X7_rule_8, ?_⟩
  refine List.forall_mem_cons.mpr ⟨ok_if_eq hx hb dd_X7_rule_11 (by decide), ?_⟩
  refine List.forall_mem_cons.mpr ⟨ok_aload_n hx hb rfl dd_X7_rule_14, ?_⟩
  refine List.forall_mem_cons.mpr ⟨ok_getR (j := 0) hx hb hts zi_X7 hown hK zc_X7 (by decide) rfl (fun t fl h => by cases h; rfl) (hts _ wd_271) dd_X7_rule_15, ?_⟩
  refine List.forall_mem_cons.mpr ⟨ok_getRN (j := 0) hx hb hts zi_X2 hown hK zc_X2 (by decide) rfl (fun t fl h => by cases h; rfl) (va_Nw.use rfl (hN _ nd_201)) dd_X7_rule_18, ?_⟩
  refine List.forall_mem_cons.mpr ⟨ok_iload_n hx hb rfl dd_X7_rule_21, ?_⟩
  refine List.forall_mem_cons.mpr ⟨ok_iload_n hx hb rfl dd_X7_rule_22, ?_⟩
  refine List.forall_mem_cons.mpr ⟨ok_callVN (n := 2) zc_X3 rv_X3_law C0 (h_X3_law (d + 5) (by omega)) (by decide) wd_578 nd_575 wd_577 wd_29 wd_102 ⟨by decide +kernel, by decide +kernel, by decide +kernel⟩ dd_X7_rule_23, ?_⟩
  refine List.forall_mem_cons.mpr ⟨ok_goto hx hb dd_X7_rule_26 (by decide), ?_⟩
  refine List.forall_mem_cons.mpr ⟨ok_aload_n hx hb rfl dd_X7_rule_29, ?_⟩
  refine List.forall_mem_cons.mpr ⟨ok_bipush hx hb dd_X7_rule_30 (by decide), ?_⟩
  refine List.forall_mem_cons.mpr ⟨ok_callV (n := 1) zc_X7 rv_X7_refuse C0 (h_X7_refuse (d + 5) (by omega)) (by decide) wd_328 wd_325 wd_327 wd_3 wd_100 ⟨rfl, by decide +kernel, by decide +kernel, by decide +kernel⟩ dd_X7_rule_32, ?_⟩
  refine List.forall_mem_cons.mpr ⟨ok_iret hx hb hr hlocks hQ dd_X7_rule_35, ?_⟩
  exact fun _ h => absurd h List.not_mem_nil
set_option maxRecDepth 100000 in
theorem vc_X7_rule_0 {kd : Nat → Nat} {K : zK} {X : zX} (hX : ∀ (n pc : Nat) (ls : zLS) (st : List zV) (M : zM), zrun (tb_X7_rule kd K) [] n X pc ls st M → X pc ls st M) {g : Int32} {y : Int32} {M : zM} (hk0 : kd 0 = 1) (hk1 : kd 2 = 3) (hk2 : kd 1 = 2) (h : ∀ v1 : Int32, (v1 = zp (isT g.toInt)) → ((v1 = 0) → ∃ s2 : St, (RpX kd M s2) ∧ ∃ k2 : Nat, (k2 < 3 ∧ (-2 : Int32).toInt = -2 - (k2 : Int)) ∧ ∀ v2 : Int32, (v2 = (-2 : Int32)) → ∀ M2 : zM, (RpX kd M2 (sRf s2 k2)) → (fr9 M M2) → K (some (zI (v2))) M2) ∧ ((¬ v1 = 0) → ∀ v3 : Int32, (v3 = zp (isY y.toInt)) → ((v3 = 0) → ∃ s4 : St, (RpX kd M s4) ∧ ∃ k4 : Nat, (k4 < 3 ∧ (-2 : Int32).toInt = -2 - (k4 : Int)) ∧ ∀ v4 : Int32, (v4 = (-2 : Int32)) → ∀ M4 : zM, (RpX kd M4 (sRf s4 k4)) → (fr9 M M4) → K (some (zI (v4))) M4) ∧ ((¬ v3 = 0) → ∃ a5 : Sk, (RpS (M.1 2) a5) ∧ (0 ≤ y.toInt ∧ y.toInt < 1000000) ∧ ∀ v5 : Int32, (v5.toInt = sk_law a5 g.toInt y.toInt) → K (some (zI (v5))) M))) : X 0 [some (zR 0 0), some (zI (g)), some (zI (y))] [] M := hX 15 0 _ [] M (show ∀ v1 : Int32, (v1 = zp (isT g.toInt)) → ((v1 = 0) → (kd 0 = 1) ∧ ∃ s2 : St, (RpX kd M s2) ∧ ∃ k2 : Nat, (k2 < 3 ∧ (-2 : Int32).toInt = -2 - (k2 : Int)) ∧ ∀ v2 : Int32, (v2 = (-2 : Int32)) → ∀ M2 : zM, (RpX kd M2 (sRf s2 k2)) → (fr9 M M2) → K (some (zI (v2))) M2) ∧ ((¬ v1 = 0) → ∀ v3 : Int32, (v3 = zp (isY y.toInt)) → ((v3 = 0) → (kd 0 = 1) ∧ ∃ s4 : St, (RpX kd M s4) ∧ ∃ k4 : Nat, (k4 < 3 ∧ (-2 : Int32).toInt = -2 - (k4 : Int)) ∧ ∀ v4 : Int32, (v4 = (-2 : Int32)) → ∀ M4 : zM, (RpX kd M4 (sRf s4 k4)) → (fr9 M M4) → K (some (zI (v4))) M4) ∧ ((¬ v3 = 0) → (kd 0 = 1) ∧ (kd 1 = 2) ∧ (kd 2 = 3) ∧ ∃ a5 : Sk, (RpS (M.1 2) a5) ∧ (0 ≤ y.toInt ∧ y.toInt < 1000000) ∧ ∀ v5 : Int32, (v5.toInt = sk_law a5 g.toInt y.toInt) → K (some (zI (v5))) M)) from fun v1 => have h := h v1; fun q => have h := h q; ⟨fun q => have h := h.1 q; ⟨hk0, h.elim (fun s2 h => ⟨s2, ⟨h.1, have h := h.2; h.elim (fun k2 h => ⟨k2, ⟨h.1, have h := h.2; fun v2 => have h := h v2; fun q => have h := h q; fun M2 => have h := h M2; fun q => have h := h q; fun q => have h := h q; h⟩⟩)⟩⟩)⟩, fun q => have h := h.2 q; fun v3 => have h := h v3; fun q => have h := h q; ⟨fun q => have h := h.1 q; ⟨hk0, h.elim (fun s4 h => ⟨s4, ⟨h.1, have h := h.2; h.elim (fun k4 h => ⟨k4, ⟨h.1, have h := h.2; fun v4 => have h := h v4; fun q => have h := h q; fun M4 => have h := h M4; fun q => have h := h q; fun q => have h := h q; h⟩⟩)⟩⟩)⟩, fun q => have h := h.2 q; ⟨hk0, ⟨hk2, ⟨hk1, h.elim (fun a5 h => ⟨a5, ⟨h.1, have h := h.2; ⟨h.1, have h := h.2; fun v5 => have h := h v5; fun q => have h := h q; h⟩⟩⟩)⟩⟩⟩⟩⟩)
def sp_X7_tear : zSpec := fun kd as M K => match as with
  | [.inr (.inr (.inl (0, 0))), .inl y, .inl c] => (kd 0 = 1) ∧ (KdX kd) ∧ ∃ s : St, (RpX kd M s) ∧ ∀ v : Int32, (v.toInt = (ev_tear s y.toInt c.toInt).1) → ∀ M' : zM, (RpX kd M' (ev_tear s y.toInt c.toInt).2) → (fr9 M M') → K (some (.inl v)) M'
  | _ => False
theorem rv_X7_tear : zrv sp_X7_tear 1 2 := by
  intro kd as M K h
  unfold sp_X7_tear at h
  split at h
  · exact ⟨_, _, rfl, h.1⟩
  · exact h.elim
theorem dd_X7_tear_0 : decode cX7_tear 0 = .ok (.iload_n 1, 1) := by decide +kernel
theorem dd_X7_tear_1 : decode cX7_tear 1 = .ok (.invokestatic 148, 3) := by decide +kernel
theorem dd_X7_tear_4 : decode cX7_tear 4 = .ok (.ifCond .eq 15, 3) := by decide +kernel
theorem dd_X7_tear_7 : decode cX7_tear 7 = .ok (.iload_n 2, 1) := by decide +kernel
theorem dd_X7_tear_8 : decode cX7_tear 8 = .ok (.iconst (-1), 1) := by decide +kernel
theorem dd_X7_tear_9 : decode cX7_tear 9 = .ok (.if_icmp .eq 20, 3) := by decide +kernel
theorem dd_X7_tear_12 : decode cX7_tear 12 = .ok (.iload_n 2, 1) := by decide +kernel
theorem dd_X7_tear_13 : decode cX7_tear 13 = .ok (.invokestatic 62, 3) := by decide +kernel
theorem dd_X7_tear_16 : decode cX7_tear 16 = .ok (.ifCond .ne 13, 3) := by decide +kernel
theorem dd_X7_tear_19 : decode cX7_tear 19 = .ok (.aload_n 0, 1) := by decide +kernel
theorem dd_X7_tear_20 : decode cX7_tear 20 = .ok (.bipush (-2), 2) := by decide +kernel
theorem dd_X7_tear_22 : decode cX7_tear 22 = .ok (.invokevirtual 73, 3) := by decide +kernel
theorem dd_X7_tear_25 : decode cX7_tear 25 = .ok (.pop, 1) := by decide +kernel
theorem dd_X7_tear_26 : decode cX7_tear 26 = .ok (.bipush (-10), 2) := by decide +kernel
theorem dd_X7_tear_28 : decode cX7_tear 28 = .ok (.ireturn, 1) := by decide +kernel
theorem dd_X7_tear_29 : decode cX7_tear 29 = .ok (.iload_n 2, 1) := by decide +kernel
theorem dd_X7_tear_30 : decode cX7_tear 30 = .ok (.iconst (-1), 1) := by decide +kernel
theorem dd_X7_tear_31 : decode cX7_tear 31 = .ok (.if_icmp .ne 17, 3) := by decide +kernel
theorem dd_X7_tear_34 : decode cX7_tear 34 = .ok (.aload_n 0, 1) := by decide +kernel
theorem dd_X7_tear_35 : decode cX7_tear 35 = .ok (.getfield 12, 3) := by decide +kernel
theorem dd_X7_tear_38 : decode cX7_tear 38 = .ok (.getfield 52, 3) := by decide +kernel
theorem dd_X7_tear_41 : decode cX7_tear 41 = .ok (.iload_n 1, 1) := by decide +kernel
theorem dd_X7_tear_42 : decode cX7_tear 42 = .ok (.invokevirtual 163, 3) := by decide +kernel
theorem dd_X7_tear_45 : decode cX7_tear 45 = .ok (.goto 15, 3) := by decide +kernel
theorem dd_X7_tear_48 : decode cX7_tear 48 = .ok (.aload_n 0, 1) := by decide +kernel
theorem dd_X7_tear_49 : decode cX7_tear 49 = .ok (.getfield 12, 3) := by decide +kernel
theorem dd_X7_tear_52 : decode cX7_tear 52 = .ok (.getfield 52, 3) := by decide +kernel
theorem dd_X7_tear_55 : decode cX7_tear 55 = .ok (.iload_n 2, 1) := by decide +kernel
theorem dd_X7_tear_56 : decode cX7_tear 56 = .ok (.iload_n 1, 1) := by decide +kernel
theorem dd_X7_tear_57 : decode cX7_tear 57 = .ok (.invokevirtual 166, 3) := by decide +kernel
theorem dd_X7_tear_60 : decode cX7_tear 60 = .ok (.ireturn, 1) := by decide +kernel
def tb_X7_tear (kd : Nat → Nat) (K : zK) : zTab := [(0, zt_iload 1 1), (1, zt_call kd sp_X7_isYear 1 4), (4, zt_if (fun x => x = 0) (fun x => ¬ x = 0) 19 7), (7, zt_iload 2 8), (8, zt_const (zI (-1)) 9), (9, zt_icmp (fun x y => x = y) (fun x y => ¬ x = y) 29 12), (12, zt_iload 2 13), (13, zt_call kd sp_X7_isCell 1 16), (16, zt_if (fun x => ¬ x = 0) (fun x => x = 0) 29 19), (19, zt_aload 0 20), (20, zt_const (zI (-2)) 22), (22, zt_call kd sp_X7_refuse 2 25), (25, zt_pop 26), (26, zt_const (zI (-10)) 28), (28, zt_iret K), (29, zt_iload 2 30), (30, zt_const (zI (-1)) 31), (31, zt_icmp (fun x y => ¬ x = y) (fun x y => x = y) 48 34), (34, zt_aload 0 35), (35, zt_getR kd 1 1 0 38), (38, zt_getR kd 2 1 0 41), (41, zt_iload 1 42), (42, zt_call kd sp_X3_tornInAll 2 45), (45, zt_goto 60), (48, zt_aload 0 49), (49, zt_getR kd 1 1 0 52), (52, zt_getR kd 2 1 0 55), (55, zt_iload 2 56), (56, zt_iload 1 57), (57, zt_call kd sp_X3_tornOf 3 60), (60, zt_iret K)]
set_option maxRecDepth 20000 in
theorem tk_X7_tear (d : Nat) (h_X7_isYear : zMS 1 yX7_isYear cX7_isYear 1 (some .boolean) sp_X7_isYear) (h_X7_isCell : zMS 1 yX7_isCell cX7_isCell 1 (some .boolean) sp_X7_isCell) (h_X7_refuse : zMS 2 yX7_refuse cX7_refuse 3 (some .int) sp_X7_refuse) (h_X3_tornInAll : zMS 5 yX3_tornInAll cX3_tornInAll 4 (some .int) sp_X3_tornInAll) (h_X3_tornOf : zMS 6 yX3_tornOf cX3_tornOf 6 (some .int) sp_X3_tornOf) : zTrue RX7 cX7_tear 3 (some .int) (d + 7) (fun kd K => tb_X7_tear kd K) := by
  intro p l e R s m args below meth c D cy A ad bl Qm K C0 hr hlocks hQ
  obtain ⟨hx, hb, hml, hown, hts, hK, hD, hA0, hN, hE, ⟨hR1, hR2⟩, hc1, hc2⟩ := id C0
  unfold tb_X7_tear
  refine List.forall_mem_cons.mpr ⟨ok_iload_n hx hb rfl dd_X7_tear_0, ?_⟩
  refine List.forall_mem_cons.mpr ⟨ok_callS (n := 1) C0 (h_X7_isYear (d + 6) (by omega)) (by decide) wd_550 wd_548 wd_549 wd_100 ⟨by decide +kernel, by decide +kernel, by decide +kernel⟩ dd_X7_tear_1, ?_⟩
  refine List.forall_mem_cons.mpr ⟨ok_if_eq hx hb dd_X7_tear_4 (by decide), ?_⟩
  refine List.forall_mem_cons.mpr ⟨ok_iload_n hx hb rfl dd_X7_tear_7, ?_⟩
  refine List.forall_mem_cons.mpr ⟨ok_iconst hx hb dd_X7_tear_8 (by decide), ?_⟩
  refine List.forall_mem_cons.mpr ⟨ok_icmp_eq hx hb dd_X7_tear_9 (by decide), ?_⟩
  refine List.forall_mem_cons.mpr ⟨ok_iload_n hx hb rfl dd_X7_tear_12, ?_⟩
  refine List.forall_mem_cons.mpr ⟨ok_callS (n := 1) C0 (h_X7_isCell (d + 6) (by omega)) (by decide) wd_318 wd_316 wd_317 wd_100 ⟨by decide +kernel, by decide +kernel, by decide +kernel⟩ dd_X7_tear_13, ?_⟩
  refine List.forall_mem_cons.mpr ⟨ok_if_ne hx hb dd_X7_tear_16 (by decide), ?_⟩
  refine List.forall_mem_cons.mpr ⟨ok_aload_n hx hb rfl dd_X7_tear_19, ?_⟩
  refine List.forall_mem_cons.mpr ⟨ok_bipush hx hb dd_X7_tear_20 (by decide), ?_⟩
  refine List.forall_mem_cons.mpr ⟨ok_callV (n := 1) zc_X7 rv_X7_refuse C0 (h_X7_refuse (d + 6) (by omega)) (by decide) wd_328 wd_325 wd_327 wd_3 wd_100 ⟨rfl, by decide +kernel, by decide +kernel, by decide +kernel⟩ dd_X7_tear_22, ?_⟩
  refine List.forall_mem_cons.mpr ⟨ok_pop hx hb dd_X7_tear_25, ?_⟩
  refine List.forall_mem_cons.mpr ⟨ok_bipush hx hb dd_X7_tear_26 (by decide), ?_⟩
  refine List.forall_mem_cons.mpr ⟨ok_iret hx hb hr hlocks hQ dd_X7_tear_28, ?_⟩
  refine List.forall_mem_cons.mpr ⟨ok_iload_n hx hb rfl dd_X7_tear_29, ?_⟩
  refine List.forall_mem_cons.mpr ⟨ok_iconst hx hb dd_X7_tear_30 (by decide), ?_⟩
  refine List.forall_mem_cons.mpr ⟨ok_icmp_ne hx hb dd_X7_tear_31 (by decide), ?_⟩
  refine List.forall_mem_cons.mpr ⟨ok_aload_n hx hb rfl dd_X7_tear_34, ?_⟩
  refine List.forall_mem_cons.mpr ⟨ok_getR (j := 0) hx hb hts zi_X7 hown hK zc_X7 (by decide) rfl (fun t fl h => by cases h; rfl) (hts _ wd_271) dd_X7_tear_35, ?_⟩
  refine List.forall_mem_cons.mpr ⟨ok_getRN (j := 0) hx hb hts zi_X2 hown hK zc_X2 (by decide) rfl (fun t fl h => by cases h; rfl) (va_Nw.use rfl (hN _ nd_201)) dd_X7_tear_38, ?_⟩
  refine List.forall_mem_cons.mpr ⟨ok_iload_n hx hb rfl dd_X7_tear_41, ?_⟩
  refine List.forall_mem_cons.mpr ⟨ok_callVN (n := 1) zc_X3 rv_X3_tornInAll C0 (h_X3_tornInAll (d + 6) (by omega)) (by decide) wd_611 nd_608 wd_610 wd_33 wd_102 ⟨by decide +kernel, by decide +kernel, by decide +kernel⟩ dd_X7_tear_42, ?_⟩
  refine List.forall_mem_cons.mpr ⟨ok_goto hx hb dd_X7_tear_45 (by decide), ?_⟩
  refine List.forall_mem_cons.mpr ⟨ok_aload_n hx hb rfl dd_X7_tear_48, ?_⟩
  refine List.forall_mem_cons.mpr ⟨ok_getR (j := 0) hx hb hts zi_X7 hown hK zc_X7 (by decide) rfl (fun t fl h => by cases h; rfl) (hts _ wd_271) dd_X7_tear_49, ?_⟩
  refine List.forall_mem_cons.mpr ⟨ok_getRN (j := 0) hx hb hts zi_X2 hown hK zc_X2 (by decide) rfl (fun t fl h => by cases h; rfl) (va_Nw.use rfl (hN _ nd_201)) dd_X7_tear_52, ?_⟩
  refine List.forall_mem_cons.mpr ⟨ok_iload_n hx hb rfl dd_X7_tear_55, ?_⟩
  refine List.forall_mem_cons.mpr ⟨ok_iload_n hx hb rfl dd_X7_tear_56, ?_⟩
  refine List.forall_mem_cons.mpr ⟨ok_callVN (n := 2) zc_X3 rv_X3_tornOf C0 (h_X3_tornOf (d + 6) (by omega)) (by decide) wd_619 nd_616 wd_618 wd_35 wd_102 ⟨by decide +kernel, by decide +kernel, by decide +kernel⟩ dd_X7_tear_57, ?_⟩
  refine List.forall_mem_cons.mpr ⟨ok_iret hx hb hr hlocks hQ dd_X7_tear_60, ?_⟩
  exact fun _ h => absurd h List.not_mem_nil
set_option maxRecDepth 100000 in
theorem vc_X7_tear_0 {kd : Nat → Nat} {K : zK} {X : zX} (hX : ∀ (n pc : Nat) (ls : zLS) (st : List zV) (M : zM), zrun (tb_X7_tear kd K) [] n X pc ls st M → X pc ls st M) {y : Int32} {c : Int32} {M : zM} (hk0 : kd 0 = 1) (hk1 : kd 2 = 3) (hk2 : kd 1 = 2) (h : ∀ v1 : Int32, (v1 = zp (isY y.toInt)) → ((v1 = 0) → ∃ s2 : St, (RpX kd M s2) ∧ ∃ k2 : Nat, (k2 < 3 ∧ (-2 : Int32).toInt = -2 - (k2 : Int)) ∧ ∀ v2 : Int32, (v2 = (-2 : Int32)) → ∀ M2 : zM, (RpX kd M2 (sRf s2 k2)) → (fr9 M M2) → K (some (zI ((-10 : Int32)))) M2) ∧ ((¬ v1 = 0) → ((c = (-1 : Int32)) → ((¬ c = (-1 : Int32)) → ∃ a3 : Sk, (RpS (M.1 2) a3) ∧ (0 ≤ c.toInt ∧ c.toInt < 6) ∧ (0 ≤ y.toInt ∧ y.toInt < 1000000) ∧ ∀ v3 : Int32, (v3.toInt = sk_tof a3 c.toInt y.toInt) → K (some (zI (v3))) M) ∧ ((c = (-1 : Int32)) → ∃ a4 : Sk, (RpS (M.1 2) a4) ∧ (0 ≤ y.toInt ∧ y.toInt < 1000000) ∧ ∀ v4 : Int32, (v4.toInt = sk_torn a4 y.toInt) → K (some (zI (v4))) M)) ∧ ((¬ c = (-1 : Int32)) → ∀ v5 : Int32, (v5 = zp (0 ≤ c.toInt ∧ c.toInt < 6)) → ((¬ v5 = 0) → ((¬ c = (-1 : Int32)) → ∃ a6 : Sk, (RpS (M.1 2) a6) ∧ (0 ≤ c.toInt ∧ c.toInt < 6) ∧ (0 ≤ y.toInt ∧ y.toInt < 1000000) ∧ ∀ v6 : Int32, (v6.toInt = sk_tof a6 c.toInt y.toInt) → K (some (zI (v6))) M) ∧ ((c = (-1 : Int32)) → ∃ a7 : Sk, (RpS (M.1 2) a7) ∧ (0 ≤ y.toInt ∧ y.toInt < 1000000) ∧ ∀ v7 : Int32, (v7.toInt = sk_torn a7 y.toInt) → K (some (zI (v7))) M)) ∧ ((v5 = 0) → ∃ s8 : St, (RpX kd M s8) ∧ ∃ k8 : Nat, (k8 < 3 ∧ (-2 : Int32).toInt = -2 - (k8 : Int)) ∧ ∀ v8 : Int32, (v8 = (-2 : Int32)) → ∀ M8 : zM, (RpX kd M8 (sRf s8 k8)) → (fr9 M M8) → K (some (zI ((-10 : Int32)))) M8)))) : X 0 [some (zR 0 0), some (zI (y)), some (zI (c))] [] M := hX 20 0 _ [] M (show ∀ v1 : Int32, (v1 = zp (isY y.toInt)) → ((v1 = 0) → (kd 0 = 1) ∧ ∃ s2 : St, (RpX kd M s2) ∧ ∃ k2 : Nat, (k2 < 3 ∧ (-2 : Int32).toInt = -2 - (k2 : Int)) ∧ ∀ v2 : Int32, (v2 = (-2 : Int32)) → ∀ M2 : zM, (RpX kd M2 (sRf s2 k2)) → (fr9 M M2) → K (some (zI ((-10 : Int32)))) M2) ∧ ((¬ v1 = 0) → ((c = (-1 : Int32)) → ((¬ c = (-1 : Int32)) → (kd 0 = 1) ∧ (kd 1 = 2) ∧ (kd 2 = 3) ∧ ∃ a3 : Sk, (RpS (M.1 2) a3) ∧ (0 ≤ c.toInt ∧ c.toInt < 6) ∧ (0 ≤ y.toInt ∧ y.toInt < 1000000) ∧ ∀ v3 : Int32, (v3.toInt = sk_tof a3 c.toInt y.toInt) → K (some (zI (v3))) M) ∧ ((c = (-1 : Int32)) → (kd 0 = 1) ∧ (kd 1 = 2) ∧ (kd 2 = 3) ∧ ∃ a4 : Sk, (RpS (M.1 2) a4) ∧ (0 ≤ y.toInt ∧ y.toInt < 1000000) ∧ ∀ v4 : Int32, (v4.toInt = sk_torn a4 y.toInt) → K (some (zI (v4))) M)) ∧ ((¬ c = (-1 : Int32)) → ∀ v5 : Int32, (v5 = zp (0 ≤ c.toInt ∧ c.toInt < 6)) → ((¬ v5 = 0) → ((¬ c = (-1 : Int32)) → (kd 0 = 1) ∧ (kd 1 = 2) ∧ (kd 2 = 3) ∧ ∃ a6 : Sk, (RpS (M.1 2) a6) ∧ (0 ≤ c.toInt ∧ c.toInt < 6) ∧ (0 ≤ y.toInt ∧ y.toInt < 1000000) ∧ ∀ v6 : Int32, (v6.toInt = sk_tof a6 c.toInt y.toInt) → K (some (zI (v6))) M) ∧ ((c = (-1 : Int32)) → (kd 0 = 1) ∧ (kd 1 = 2) ∧ (kd 2 = 3) ∧ ∃ a7 : Sk, (RpS (M.1 2) a7) ∧ (0 ≤ y.toInt ∧ y.toInt < 1000000) ∧ ∀ v7 : Int32, (v7.toInt = sk_torn a7 y.toInt) → K (some (zI (v7))) M)) ∧ ((v5 = 0) → (kd 0 = 1) ∧ ∃ s8 : St, (RpX kd M s8) ∧ ∃ k8 : Nat, (k8 < 3 ∧ (-2 : Int32).toInt = -2 - (k8 : Int)) ∧ ∀ v8 : Int32, (v8 = (-2 : Int32)) → ∀ M8 : zM, (RpX kd M8 (sRf s8 k8)) → (fr9 M M8) → K (some (zI ((-10 : Int32)))) M8))) from fun v1 => have h := h v1; fun q => have h := h q; ⟨fun q => have h := h.1 q; ⟨hk0, h.elim (fun s2 h => ⟨s2, ⟨h.1, have h := h.2; h.elim (fun k2 h => ⟨k2, ⟨h.1, have h := h.2; fun v2 => have h := h v2; fun q => have h := h q; fun M2 => have h := h M2; fun q => have h := h q; fun q => have h := h q; h⟩⟩)⟩⟩)⟩, fun q => have h := h.2 q; ⟨fun q => have h := h.1 q; ⟨fun q => have h := h.1 q; ⟨hk0, ⟨hk2, ⟨hk1, h.elim (fun a3 h => ⟨a3, ⟨h.1, have h := h.2; ⟨h.1, have h := h.2; ⟨h.1, have h := h.2; fun v3 => have h := h v3; fun q => have h := h q; h⟩⟩⟩⟩)⟩⟩⟩, fun q => have h := h.2 q; ⟨hk0, ⟨hk2, ⟨hk1, h.elim (fun a4 h => ⟨a4, ⟨h.1, have h := h.2; ⟨h.1, have h := h.2; fun v4 => have h := h v4; fun q => have h := h q; h⟩⟩⟩)⟩⟩⟩⟩, fun q => have h := h.2 q; fun v5 => have h := h v5; fun q => have h := h q; ⟨fun q => have h := h.1 q; ⟨fun q => have h := h.1 q; ⟨hk0, ⟨hk2, ⟨hk1, h.elim (fun a6 h => ⟨a6, ⟨h.1, have h := h.2; ⟨h.1, have h := h.2; ⟨h.1, have h := h.2; fun v6 => have h := h v6; fun q => have h := h q; h⟩⟩⟩⟩)⟩⟩⟩, fun q => have h := h.2 q; ⟨hk0, ⟨hk2, ⟨hk1, h.elim (fun a7 h => ⟨a7, ⟨h.1, have h := h.2; ⟨h.1, have h := h.2; fun v7 => have h := h v7; fun q => have h := h q; h⟩⟩⟩)⟩⟩⟩⟩, fun q => have h := h.2 q; ⟨hk0, h.elim (fun s8 h => ⟨s8, ⟨h.1, have h := h.2; h.elim (fun k8 h => ⟨k8, ⟨h.1, have h := h.2; fun v8 => have h := h v8; fun q => have h := h q; fun M8 => have h := h M8; fun q => have h := h q; fun q => have h := h q; h⟩⟩)⟩⟩)⟩⟩⟩⟩)
def sp_X7_hangs : zSpec := fun kd as M K => match as with
  | [.inr (.inr (.inl (0, 0))), .inl c, .inl i, .inl y] => (kd 0 = 1) ∧ (KdX kd) ∧ ∃ s : St, (RpX kd M s) ∧ ∀ v : Int32, (v.toInt = (ev_hangs s c.toInt i.toInt y.toInt).1) → ∀ M' : zM, (RpX kd M' (ev_hangs s c.toInt i.toInt y.toInt).2) → (fr9 M M') → K (some (.inl v)) M'
  | _ => False
theorem rv_X7_hangs : zrv sp_X7_hangs 1 3 := by
  intro kd as M K h
  unfold sp_X7_hangs at h
  split at h
  · exact ⟨_, _, rfl, h.1⟩
  · exact h.elim
theorem dd_X7_hangs_0 : decode cX7_hangs 0 = .ok (.aload_n 0, 1) := by decide +kernel
theorem dd_X7_hangs_1 : decode cX7_hangs 1 = .ok (.getfield 12, 3) := by decide +kernel
theorem dd_X7_hangs_4 : decode cX7_hangs 4 = .ok (.getfield 52, 3) := by decide +kernel
theorem dd_X7_hangs_7 : decode cX7_hangs 7 = .ok (.iload_n 1, 1) := by decide +kernel
theorem dd_X7_hangs_8 : decode cX7_hangs 8 = .ok (.iload_n 2, 1) := by decide +kernel
theorem dd_X7_hangs_9 : decode cX7_hangs 9 = .ok (.invokevirtual 144, 3) := by decide +kernel
theorem dd_X7_hangs_12 : decode cX7_hangs 12 = .ok (.ifCond .eq 10, 3) := by decide +kernel
theorem dd_X7_hangs_15 : decode cX7_hangs 15 = .ok (.iload_n 3, 1) := by decide +kernel
theorem dd_X7_hangs_16 : decode cX7_hangs 16 = .ok (.invokestatic 148, 3) := by decide +kernel
theorem dd_X7_hangs_19 : decode cX7_hangs 19 = .ok (.ifCond .ne 10, 3) := by decide +kernel
theorem dd_X7_hangs_22 : decode cX7_hangs 22 = .ok (.aload_n 0, 1) := by decide +kernel
theorem dd_X7_hangs_23 : decode cX7_hangs 23 = .ok (.bipush (-2), 2) := by decide +kernel
theorem dd_X7_hangs_25 : decode cX7_hangs 25 = .ok (.invokevirtual 73, 3) := by decide +kernel
theorem dd_X7_hangs_28 : decode cX7_hangs 28 = .ok (.ireturn, 1) := by decide +kernel
theorem dd_X7_hangs_29 : decode cX7_hangs 29 = .ok (.aload_n 0, 1) := by decide +kernel
theorem dd_X7_hangs_30 : decode cX7_hangs 30 = .ok (.getfield 12, 3) := by decide +kernel
theorem dd_X7_hangs_33 : decode cX7_hangs 33 = .ok (.getfield 52, 3) := by decide +kernel
theorem dd_X7_hangs_36 : decode cX7_hangs 36 = .ok (.iload_n 1, 1) := by decide +kernel
theorem dd_X7_hangs_37 : decode cX7_hangs 37 = .ok (.iload_n 2, 1) := by decide +kernel
theorem dd_X7_hangs_38 : decode cX7_hangs 38 = .ok (.iload_n 3, 1) := by decide +kernel
theorem dd_X7_hangs_39 : decode cX7_hangs 39 = .ok (.invokevirtual 169, 3) := by decide +kernel
theorem dd_X7_hangs_42 : decode cX7_hangs 42 = .ok (.ireturn, 1) := by decide +kernel
def tb_X7_hangs (kd : Nat → Nat) (K : zK) : zTab := [(0, zt_aload 0 1), (1, zt_getR kd 1 1 0 4), (4, zt_getR kd 2 1 0 7), (7, zt_iload 1 8), (8, zt_iload 2 9), (9, zt_call kd sp_X3_has 3 12), (12, zt_if (fun x => x = 0) (fun x => ¬ x = 0) 22 15), (15, zt_iload 3 16), (16, zt_call kd sp_X7_isYear 1 19), (19, zt_if (fun x => ¬ x = 0) (fun x => x = 0) 29 22), (22, zt_aload 0 23), (23, zt_const (zI (-2)) 25), (25, zt_call kd sp_X7_refuse 2 28), (28, zt_iret K), (29, zt_aload 0 30), (30, zt_getR kd 1 1 0 33), (33, zt_getR kd 2 1 0 36), (36, zt_iload 1 37), (37, zt_iload 2 38), (38, zt_iload 3 39), (39, zt_call kd sp_X3_hangingOn 4 42), (42, zt_iret K)]
set_option maxRecDepth 20000 in
theorem tk_X7_hangs (d : Nat) (h_X3_has : zMS 2 yX3_has cX3_has 3 (some .boolean) sp_X3_has) (h_X7_isYear : zMS 1 yX7_isYear cX7_isYear 1 (some .boolean) sp_X7_isYear) (h_X7_refuse : zMS 2 yX7_refuse cX7_refuse 3 (some .int) sp_X7_refuse) (h_X3_hangingOn : zMS 5 yX3_hangingOn cX3_hangingOn 5 (some .int) sp_X3_hangingOn) : zTrue RX7 cX7_hangs 4 (some .int) (d + 6) (fun kd K => tb_X7_hangs kd K) := by
  intro p l e R s m args below meth c D cy A ad bl Qm K C0 hr hlocks hQ
  obtain ⟨hx, hb, hml, hown, hts, hK, hD, hA0, hN, hE, ⟨hR1, hR2⟩, hc1, hc2⟩ := id C0
  unfold tb_X7_hangs
  refine List.forall_mem_cons.mpr ⟨ok_aload_n hx hb rfl dd_X7_hangs_0, ?_⟩
  refine List.forall_mem_cons.mpr ⟨ok_getR (j := 0) hx hb hts zi_X7 hown hK zc_X7 (by decide) rfl (fun t fl h => by cases h; rfl) (hts _ wd_271) dd_X7_hangs_1, ?_⟩
  refine List.forall_mem_cons.mpr ⟨ok_getRN (j := 0) hx hb hts zi_X2 hown hK zc_X2 (by decide) rfl (fun t fl h => by cases h; rfl) (va_Nw.use rfl (hN _ nd_201)) dd_X7_hangs_4, ?_⟩
  refine List.forall_mem_cons.mpr ⟨ok_iload_n hx hb rfl dd_X7_hangs_7, ?_⟩
  refine List.forall_mem_cons.mpr ⟨ok_iload_n hx hb rfl dd_X7_hangs_8, ?_⟩
  refine List.forall_mem_cons.mpr ⟨ok_callVN (n := 2) zc_X3 rv_X3_has C0 (h_X3_has (d + 5) (by omega)) (by decide) wd_547 nd_544 wd_546 wd_24 wd_102 ⟨by decide +kernel, by decide +kernel, by decide +kernel⟩ dd_X7_hangs_9, ?_⟩
  refine List.forall_mem_cons.mpr ⟨ok_if_eq hx hb dd_X7_hangs_12 (by decide), ?_⟩
  refine List.forall_mem_cons.mpr ⟨ok_iload_n hx hb rfl dd_X7_hangs_15, ?_⟩
  refine List.forall_mem_cons.mpr ⟨ok_callS (n := 1) C0 (h_X7_isYear (d + 5) (by omega)) (by decide) wd_550 wd_548 wd_549 wd_100 ⟨by decide +kernel, by decide +kernel, by decide +kernel⟩ dd_X7_hangs_16, ?_⟩
  refine List.forall_mem_cons.mpr ⟨ok_if_ne hx hb dd_X7_hangs_19 (by decide), ?_⟩
  refine List.forall_mem_cons.mpr ⟨ok_aload_n hx hb rfl dd_X7_hangs_22, ?_⟩
  refine List.forall_mem_cons.mpr ⟨ok_bipush hx hb dd_X7_hangs_23 (by decide), ?_⟩
  refine List.forall_mem_cons.mpr ⟨ok_callV (n := 1) zc_X7 rv_X7_refuse C0 (h_X7_refuse (d + 5) (by omega)) (by decide) wd_328 wd_325 wd_327 wd_3 wd_100 ⟨rfl, by decide +kernel, by decide +kernel, by decide +kernel⟩ dd_X7_hangs_25, ?_⟩
  refine List.forall_mem_cons.mpr ⟨ok_iret hx hb hr hlocks hQ dd_X7_hangs_28, ?_⟩
  refine List.forall_mem_cons.mpr ⟨ok_aload_n hx hb rfl dd_X7_hangs_29, ?_⟩
  refine List.forall_mem_cons.mpr ⟨ok_getR (j := 0) hx hb hts zi_X7 hown hK zc_X7 (by decide) rfl (fun t fl h => by cases h; rfl) (hts _ wd_271) dd_X7_hangs_30, ?_⟩
  refine List.forall_mem_cons.mpr ⟨ok_getRN (j := 0) hx hb hts zi_X2 hown hK zc_X2 (by decide) rfl (fun t fl h => by cases h; rfl) (va_Nw.use rfl (hN _ nd_201)) dd_X7_hangs_33, ?_⟩
  refine List.forall_mem_cons.mpr ⟨ok_iload_n hx hb rfl dd_X7_hangs_36, ?_⟩
  refine List.forall_mem_cons.mpr ⟨ok_iload_n hx hb rfl dd_X7_hangs_37, ?_⟩
  refine List.forall_mem_cons.mpr ⟨ok_iload_n hx hb rfl dd_X7_hangs_38, ?_⟩
  refine List.forall_mem_cons.mpr ⟨ok_callVN (n := 3) zc_X3 rv_X3_hangingOn C0 (h_X3_hangingOn (d + 5) (by omega)) (by decide) wd_631 nd_628 wd_630 wd_37 wd_102 ⟨by decide +kernel, by decide +kernel, by decide +kernel⟩ dd_X7_hangs_39, ?_⟩
  refine List.forall_mem_cons.mpr ⟨ok_iret hx hb hr hlocks hQ dd_X7_hangs_42, ?_⟩
  exact fun _ h => absurd h List.not_mem_nil
set_option maxRecDepth 100000 in
theorem vc_X7_hangs_0 {kd : Nat → Nat} {K : zK} {X : zX} (hX : ∀ (n pc : Nat) (ls : zLS) (st : List zV) (M : zM), zrun (tb_X7_hangs kd K) [] n X pc ls st M → X pc ls st M) {c : Int32} {i : Int32} {y : Int32} {M : zM} (hk0 : kd 0 = 1) (hk1 : kd 2 = 3) (hk2 : kd 1 = 2) (h : ∃ a1 : Sk, (RpS (M.1 2) a1) ∧ ∀ v1 : Int32, (v1 = zp ((sk_at a1 c.toInt i.toInt).isSome = true)) → ((v1 = 0) → ∃ s2 : St, (RpX kd M s2) ∧ ∃ k2 : Nat, (k2 < 3 ∧ (-2 : Int32).toInt = -2 - (k2 : Int)) ∧ ∀ v2 : Int32, (v2 = (-2 : Int32)) → ∀ M2 : zM, (RpX kd M2 (sRf s2 k2)) → (fr9 M M2) → K (some (zI (v2))) M2) ∧ ((¬ v1 = 0) → ∀ v3 : Int32, (v3 = zp (isY y.toInt)) → ((¬ v3 = 0) → ∃ a4 : Sk, (RpS (M.1 2) a4) ∧ (0 ≤ y.toInt ∧ y.toInt < 1000000) ∧ ∀ v4 : Int32, (v4.toInt = sk_hang a4 c.toInt i.toInt y.toInt) → K (some (zI (v4))) M) ∧ ((v3 = 0) → ∃ s5 : St, (RpX kd M s5) ∧ ∃ k5 : Nat, (k5 < 3 ∧ (-2 : Int32).toInt = -2 - (k5 : Int)) ∧ ∀ v5 : Int32, (v5 = (-2 : Int32)) → ∀ M5 : zM, (RpX kd M5 (sRf s5 k5)) → (fr9 M M5) → K (some (zI (v5))) M5))) : X 0 [some (zR 0 0), some (zI (c)), some (zI (i)), some (zI (y))] [] M := hX 19 0 _ [] M (show (kd 0 = 1) ∧ (kd 1 = 2) ∧ (kd 2 = 3) ∧ ∃ a1 : Sk, (RpS (M.1 2) a1) ∧ ∀ v1 : Int32, (v1 = zp ((sk_at a1 c.toInt i.toInt).isSome = true)) → ((v1 = 0) → (kd 0 = 1) ∧ ∃ s2 : St, (RpX kd M s2) ∧ ∃ k2 : Nat, (k2 < 3 ∧ (-2 : Int32).toInt = -2 - (k2 : Int)) ∧ ∀ v2 : Int32, (v2 = (-2 : Int32)) → ∀ M2 : zM, (RpX kd M2 (sRf s2 k2)) → (fr9 M M2) → K (some (zI (v2))) M2) ∧ ((¬ v1 = 0) → ∀ v3 : Int32, (v3 = zp (isY y.toInt)) → ((¬ v3 = 0) → (kd 0 = 1) ∧ (kd 1 = 2) ∧ (kd 2 = 3) ∧ ∃ a4 : Sk, (RpS (M.1 2) a4) ∧ (0 ≤ y.toInt ∧ y.toInt < 1000000) ∧ ∀ v4 : Int32, (v4.toInt = sk_hang a4 c.toInt i.toInt y.toInt) → K (some (zI (v4))) M) ∧ ((v3 = 0) → (kd 0 = 1) ∧ ∃ s5 : St, (RpX kd M s5) ∧ ∃ k5 : Nat, (k5 < 3 ∧ (-2 : Int32).toInt = -2 - (k5 : Int)) ∧ ∀ v5 : Int32, (v5 = (-2 : Int32)) → ∀ M5 : zM, (RpX kd M5 (sRf s5 k5)) → (fr9 M M5) → K (some (zI (v5))) M5)) from ⟨hk0, ⟨hk2, ⟨hk1, h.elim (fun a1 h => ⟨a1, ⟨h.1, have h := h.2; fun v1 => have h := h v1; fun q => have h := h q; ⟨fun q => have h := h.1 q; ⟨hk0, h.elim (fun s2 h => ⟨s2, ⟨h.1, have h := h.2; h.elim (fun k2 h => ⟨k2, ⟨h.1, have h := h.2; fun v2 => have h := h v2; fun q => have h := h q; fun M2 => have h := h M2; fun q => have h := h q; fun q => have h := h q; h⟩⟩)⟩⟩)⟩, fun q => have h := h.2 q; fun v3 => have h := h v3; fun q => have h := h q; ⟨fun q => have h := h.1 q; ⟨hk0, ⟨hk2, ⟨hk1, h.elim (fun a4 h => ⟨a4, ⟨h.1, have h := h.2; ⟨h.1, have h := h.2; fun v4 => have h := h v4; fun q => have h := h q; h⟩⟩⟩)⟩⟩⟩, fun q => have h := h.2 q; ⟨hk0, h.elim (fun s5 h => ⟨s5, ⟨h.1, have h := h.2; h.elim (fun k5 h => ⟨k5, ⟨h.1, have h := h.2; fun v5 => have h := h v5; fun q => have h := h q; fun M5 => have h := h M5; fun q => have h := h q; fun q => have h := h q; h⟩⟩)⟩⟩)⟩⟩⟩⟩⟩)⟩⟩⟩)
def sp_X7_seen : zSpec := fun kd as M K => match as with
  | [.inr (.inr (.inl (0, 0))), .inl c, .inl i, .inl y, .inl e] => (kd 0 = 1) ∧ (KdX kd) ∧ ∃ s : St, (RpX kd M s) ∧ ∀ v : Int32, (v.toInt = (ev_seen s c.toInt i.toInt y.toInt e.toInt).1) → ∀ M' : zM, (RpX kd M' (ev_seen s c.toInt i.toInt y.toInt e.toInt).2) → (fr9 M M') → K (some (.inl v)) M'
  | _ => False
theorem rv_X7_seen : zrv sp_X7_seen 1 4 := by
  intro kd as M K h
  unfold sp_X7_seen at h
  split at h
  · exact ⟨_, _, rfl, h.1⟩
  · exact h.elim
theorem dd_X7_seen_0 : decode cX7_seen 0 = .ok (.aload_n 0, 1) := by decide +kernel
theorem dd_X7_seen_1 : decode cX7_seen 1 = .ok (.getfield 12, 3) := by decide +kernel
theorem dd_X7_seen_4 : decode cX7_seen 4 = .ok (.getfield 52, 3) := by decide +kernel
theorem dd_X7_seen_7 : decode cX7_seen 7 = .ok (.iload_n 1, 1) := by decide +kernel
theorem dd_X7_seen_8 : decode cX7_seen 8 = .ok (.iload_n 2, 1) := by decide +kernel
theorem dd_X7_seen_9 : decode cX7_seen 9 = .ok (.invokevirtual 144, 3) := by decide +kernel
theorem dd_X7_seen_12 : decode cX7_seen 12 = .ok (.ifCond .eq 20, 3) := by decide +kernel
theorem dd_X7_seen_15 : decode cX7_seen 15 = .ok (.iload_n 3, 1) := by decide +kernel
theorem dd_X7_seen_16 : decode cX7_seen 16 = .ok (.invokestatic 148, 3) := by decide +kernel
theorem dd_X7_seen_19 : decode cX7_seen 19 = .ok (.ifCond .eq 13, 3) := by decide +kernel
theorem dd_X7_seen_22 : decode cX7_seen 22 = .ok (.iload 4, 2) := by decide +kernel
theorem dd_X7_seen_24 : decode cX7_seen 24 = .ok (.iconst 0, 1) := by decide +kernel
theorem dd_X7_seen_25 : decode cX7_seen 25 = .ok (.iconst 1, 1) := by decide +kernel
theorem dd_X7_seen_26 : decode cX7_seen 26 = .ok (.invokestatic 66, 3) := by decide +kernel
theorem dd_X7_seen_29 : decode cX7_seen 29 = .ok (.ifCond .ne 10, 3) := by decide +kernel
theorem dd_X7_seen_32 : decode cX7_seen 32 = .ok (.aload_n 0, 1) := by decide +kernel
theorem dd_X7_seen_33 : decode cX7_seen 33 = .ok (.bipush (-2), 2) := by decide +kernel
theorem dd_X7_seen_35 : decode cX7_seen 35 = .ok (.invokevirtual 73, 3) := by decide +kernel
theorem dd_X7_seen_38 : decode cX7_seen 38 = .ok (.ireturn, 1) := by decide +kernel
theorem dd_X7_seen_39 : decode cX7_seen 39 = .ok (.aload_n 0, 1) := by decide +kernel
theorem dd_X7_seen_40 : decode cX7_seen 40 = .ok (.getfield 12, 3) := by decide +kernel
theorem dd_X7_seen_43 : decode cX7_seen 43 = .ok (.getfield 188, 3) := by decide +kernel
theorem dd_X7_seen_46 : decode cX7_seen 46 = .ok (.getfield 192, 3) := by decide +kernel
theorem dd_X7_seen_49 : decode cX7_seen 49 = .ok (.bipush 6, 2) := by decide +kernel
theorem dd_X7_seen_51 : decode cX7_seen 51 = .ok (.if_icmp .lt 10, 3) := by decide +kernel
theorem dd_X7_seen_54 : decode cX7_seen 54 = .ok (.aload_n 0, 1) := by decide +kernel
theorem dd_X7_seen_55 : decode cX7_seen 55 = .ok (.bipush (-4), 2) := by decide +kernel
theorem dd_X7_seen_57 : decode cX7_seen 57 = .ok (.invokevirtual 73, 3) := by decide +kernel
theorem dd_X7_seen_60 : decode cX7_seen 60 = .ok (.ireturn, 1) := by decide +kernel
theorem dd_X7_seen_61 : decode cX7_seen 61 = .ok (.aload_n 0, 1) := by decide +kernel
theorem dd_X7_seen_62 : decode cX7_seen 62 = .ok (.getfield 12, 3) := by decide +kernel
theorem dd_X7_seen_65 : decode cX7_seen 65 = .ok (.getfield 188, 3) := by decide +kernel
theorem dd_X7_seen_68 : decode cX7_seen 68 = .ok (.iload_n 1, 1) := by decide +kernel
theorem dd_X7_seen_69 : decode cX7_seen 69 = .ok (.iload_n 2, 1) := by decide +kernel
theorem dd_X7_seen_70 : decode cX7_seen 70 = .ok (.iload_n 3, 1) := by decide +kernel
theorem dd_X7_seen_71 : decode cX7_seen 71 = .ok (.iload 4, 2) := by decide +kernel
theorem dd_X7_seen_73 : decode cX7_seen 73 = .ok (.invokevirtual 195, 3) := by decide +kernel
theorem dd_X7_seen_76 : decode cX7_seen 76 = .ok (.ireturn, 1) := by decide +kernel
def tb_X7_seen (kd : Nat → Nat) (K : zK) : zTab := [(0, zt_aload 0 1), (1, zt_getR kd 1 1 0 4), (4, zt_getR kd 2 1 0 7), (7, zt_iload 1 8), (8, zt_iload 2 9), (9, zt_call kd sp_X3_has 3 12), (12, zt_if (fun x => x = 0) (fun x => ¬ x = 0) 32 15), (15, zt_iload 3 16), (16, zt_call kd sp_X7_isYear 1 19), (19, zt_if (fun x => x = 0) (fun x => ¬ x = 0) 32 22), (22, zt_iload 4 24), (24, zt_const (zI 0) 25), (25, zt_const (zI 1) 26), (26, zt_call kd sp_X7_within 3 29), (29, zt_if (fun x => ¬ x = 0) (fun x => x = 0) 39 32), (32, zt_aload 0 33), (33, zt_const (zI (-2)) 35), (35, zt_call kd sp_X7_refuse 2 38), (38, zt_iret K), (39, zt_aload 0 40), (40, zt_getR kd 1 1 0 43), (43, zt_getR kd 2 3 0 46), (46, zt_getI kd 5 4 49), (49, zt_const (zI 6) 51), (51, zt_icmp (fun x y => x < y) (fun x y => ¬ x < y) 61 54), (54, zt_aload 0 55), (55, zt_const (zI (-4)) 57), (57, zt_call kd sp_X7_refuse 2 60), (60, zt_iret K), (61, zt_aload 0 62), (62, zt_getR kd 1 1 0 65), (65, zt_getR kd 2 3 0 68), (68, zt_iload 1 69), (69, zt_iload 2 70), (70, zt_iload 3 71), (71, zt_iload 4 73), (73, zt_call kd sp_X0_add 5 76), (76, zt_iret K)]
set_option maxRecDepth 20000 in
theorem tk_X7_seen (d : Nat) (h_X3_has : zMS 2 yX3_has cX3_has 3 (some .boolean) sp_X3_has) (h_X7_isYear : zMS 1 yX7_isYear cX7_isYear 1 (some .boolean) sp_X7_isYear) (h_X7_within : zMS 1 yX7_within cX7_within 3 (some .boolean) sp_X7_within) (h_X7_refuse : zMS 2 yX7_refuse cX7_refuse 3 (some .int) sp_X7_refuse) (h_X0_add : zMS 1 yX0_add cX0_add 5 (some .int) sp_X0_add) : zTrue RX7 cX7_seen 5 (some .int) (d + 3) (fun kd K => tb_X7_seen kd K) := by
  intro p l e R s m args below meth c D cy A ad bl Qm K C0 hr hlocks hQ
  obtain ⟨hx, hb, hml, hown, hts, hK, hD, hA0, hN, hE, ⟨hR1, hR2⟩, hc1, hc2⟩ := id C0
  unfold tb_X7_seen
  refine List.forall_mem_cons.mpr ⟨ok_aload_n hx hb rfl dd_X7_seen_0, ?_⟩
  refine List.forall_mem_cons.mpr ⟨ok_getR (j := 0) hx hb hts zi_X7 hown hK zc_X7 (by decide) rfl (fun t fl h => by cases h; rfl) (hts _ wd_271) dd_X7_seen_1, ?_⟩
  refine List.forall_mem_cons.mpr ⟨ok_getRN (j := 0) hx hb hts zi_X2 hown hK zc_X2 (by decide) rfl (fun t fl h => by cases h; rfl) (va_Nw.use rfl (hN _ nd_201)) dd_X7_seen_4, ?_⟩
  refine List.forall_mem_cons.mpr ⟨ok_iload_n hx hb rfl dd_X7_seen_7, ?_⟩
  refine List.forall_mem_cons.mpr ⟨ok_iload_n hx hb rfl dd_X7_seen_8, ?_⟩
  refine List.forall_mem_cons.mpr ⟨ok_callVN (n := 2) zc_X3 rv_X3_has C0 (h_X3_has (d + 2) (by omega)) (by decide) wd_547 nd_544 wd_546 wd_24 wd_102 ⟨by decide +kernel, by decide +kernel, by decide +kernel⟩ dd_X7_seen_9, ?_⟩
  refine List.forall_mem_cons.mpr ⟨ok_if_eq hx hb dd_X7_seen_12 (by decide), ?_⟩
  refine List.forall_mem_cons.mpr ⟨ok_iload_n hx hb rfl dd_X7_seen_15, ?_⟩
  refine List.forall_mem_cons.mpr ⟨ok_callS (n := 1) C0 (h_X7_isYear (d + 2) (by omega)) (by decide) wd_550 wd_548 wd_549 wd_100 ⟨by decide +kernel, by decide +kernel, by decide +kernel⟩ dd_X7_seen_16, ?_⟩
  refine List.forall_mem_cons.mpr ⟨ok_if_eq hx hb dd_X7_seen_19 (by decide), ?_⟩
  refine List.forall_mem_cons.mpr ⟨ok_iload hx hb dd_X7_seen_22, ?_⟩
  refine List.forall_mem_cons.mpr ⟨ok_iconst hx hb dd_X7_seen_24 (by decide), ?_⟩
  refine List.forall_mem_cons.mpr ⟨ok_iconst hx hb dd_X7_seen_25 (by decide), ?_⟩
  refine List.forall_mem_cons.mpr ⟨ok_callS (n := 3) C0 (h_X7_within (d + 2) (by omega)) (by decide) wd_321 wd_319 wd_320 wd_100 ⟨by decide +kernel, by decide +kernel, by decide +kernel⟩ dd_X7_seen_26, ?_⟩
  refine List.forall_mem_cons.mpr ⟨ok_if_ne hx hb dd_X7_seen_29 (by decide), ?_⟩
  refine List.forall_mem_cons.mpr ⟨ok_aload_n hx hb rfl dd_X7_seen_32, ?_⟩
  refine List.forall_mem_cons.mpr ⟨ok_bipush hx hb dd_X7_seen_33 (by decide), ?_⟩
  refine List.forall_mem_cons.mpr ⟨ok_callV (n := 1) zc_X7 rv_X7_refuse C0 (h_X7_refuse (d + 2) (by omega)) (by decide) wd_328 wd_325 wd_327 wd_3 wd_100 ⟨rfl, by decide +kernel, by decide +kernel, by decide +kernel⟩ dd_X7_seen_35, ?_⟩
  refine List.forall_mem_cons.mpr ⟨ok_iret hx hb hr hlocks hQ dd_X7_seen_38, ?_⟩
  refine List.forall_mem_cons.mpr ⟨ok_aload_n hx hb rfl dd_X7_seen_39, ?_⟩
  refine List.forall_mem_cons.mpr ⟨ok_getR (j := 0) hx hb hts zi_X7 hown hK zc_X7 (by decide) rfl (fun t fl h => by cases h; rfl) (hts _ wd_271) dd_X7_seen_40, ?_⟩
  refine List.forall_mem_cons.mpr ⟨ok_getRN (j := 2) hx hb hts zi_X2 hown hK zc_X2 (by decide) rfl (fun t fl h => by cases h; rfl) (va_Nw.use rfl (hN _ nd_205)) dd_X7_seen_43, ?_⟩
  refine List.forall_mem_cons.mpr ⟨ok_getIN (j := 4) hx hb hts zi_X0 hown hK zc_X0 (by decide) rfl (fun t fl h => by cases h; rfl) (va_Nw.use rfl (hN _ nd_188)) dd_X7_seen_46, ?_⟩
  refine List.forall_mem_cons.mpr ⟨ok_bipush hx hb dd_X7_seen_49 (by decide), ?_⟩
  refine List.forall_mem_cons.mpr ⟨ok_icmp_lt hx hb dd_X7_seen_51 (by decide), ?_⟩
  refine List.forall_mem_cons.mpr ⟨ok_aload_n hx hb rfl dd_X7_seen_54, ?_⟩
  refine List.forall_mem_cons.mpr ⟨ok_bipush hx hb dd_X7_seen_55 (by decide), ?_⟩
  refine List.forall_mem_cons.mpr ⟨ok_callV (n := 1) zc_X7 rv_X7_refuse C0 (h_X7_refuse (d + 2) (by omega)) (by decide) wd_328 wd_325 wd_327 wd_3 wd_100 ⟨rfl, by decide +kernel, by decide +kernel, by decide +kernel⟩ dd_X7_seen_57, ?_⟩
  refine List.forall_mem_cons.mpr ⟨ok_iret hx hb hr hlocks hQ dd_X7_seen_60, ?_⟩
  refine List.forall_mem_cons.mpr ⟨ok_aload_n hx hb rfl dd_X7_seen_61, ?_⟩
  refine List.forall_mem_cons.mpr ⟨ok_getR (j := 0) hx hb hts zi_X7 hown hK zc_X7 (by decide) rfl (fun t fl h => by cases h; rfl) (hts _ wd_271) dd_X7_seen_62, ?_⟩
  refine List.forall_mem_cons.mpr ⟨ok_getRN (j := 2) hx hb hts zi_X2 hown hK zc_X2 (by decide) rfl (fun t fl h => by cases h; rfl) (va_Nw.use rfl (hN _ nd_205)) dd_X7_seen_65, ?_⟩
  refine List.forall_mem_cons.mpr ⟨ok_iload_n hx hb rfl dd_X7_seen_68, ?_⟩
  refine List.forall_mem_cons.mpr ⟨ok_iload_n hx hb rfl dd_X7_seen_69, ?_⟩
  refine List.forall_mem_cons.mpr ⟨ok_iload_n hx hb rfl dd_X7_seen_70, ?_⟩
  refine List.forall_mem_cons.mpr ⟨ok_iload hx hb dd_X7_seen_71, ?_⟩
  refine List.forall_mem_cons.mpr ⟨ok_callVN (n := 4) zc_X0 rv_X0_add C0 (h_X0_add (d + 2) (by omega)) (by decide) wd_699 nd_696 wd_698 wd_48 wd_104 ⟨by decide +kernel, by decide +kernel, by decide +kernel⟩ dd_X7_seen_73, ?_⟩
  refine List.forall_mem_cons.mpr ⟨ok_iret hx hb hr hlocks hQ dd_X7_seen_76, ?_⟩
  exact fun _ h => absurd h List.not_mem_nil
set_option maxRecDepth 100000 in
theorem vc_X7_seen_0 {kd : Nat → Nat} {K : zK} {X : zX} (hX : ∀ (n pc : Nat) (ls : zLS) (st : List zV) (M : zM), zrun (tb_X7_seen kd K) [] n X pc ls st M → X pc ls st M) {c : Int32} {i : Int32} {y : Int32} {e : Int32} {M : zM} (hk0 : kd 0 = 1) (hk1 : kd 4 = 5) (hk2 : kd 1 = 2) (hk3 : kd 2 = 3) (h : ∃ a1 : Sk, (RpS (M.1 2) a1) ∧ ∀ v1 : Int32, (v1 = zp ((sk_at a1 c.toInt i.toInt).isSome = true)) → ((v1 = 0) → ∃ s2 : St, (RpX kd M s2) ∧ ∃ k2 : Nat, (k2 < 3 ∧ (-2 : Int32).toInt = -2 - (k2 : Int)) ∧ ∀ v2 : Int32, (v2 = (-2 : Int32)) → ∀ M2 : zM, (RpX kd M2 (sRf s2 k2)) → (fr9 M M2) → K (some (zI (v2))) M2) ∧ ((¬ v1 = 0) → ∀ v3 : Int32, (v3 = zp (isY y.toInt)) → ((v3 = 0) → ∃ s4 : St, (RpX kd M s4) ∧ ∃ k4 : Nat, (k4 < 3 ∧ (-2 : Int32).toInt = -2 - (k4 : Int)) ∧ ∀ v4 : Int32, (v4 = (-2 : Int32)) → ∀ M4 : zM, (RpX kd M4 (sRf s4 k4)) → (fr9 M M4) → K (some (zI (v4))) M4) ∧ ((¬ v3 = 0) → ∀ v5 : Int32, (v5 = zp ((0 : Int32).toInt ≤ e.toInt ∧ e.toInt ≤ (1 : Int32).toInt)) → ((¬ v5 = 0) → (((M.1 4 0 4) < (6 : Int32)) → ∃ L6 : List Se, (RpL (M.1 4) L6) ∧ (L6.length < 6) ∧ (okSe (c.toInt, i.toInt, y.toInt, e.toInt)) ∧ ∀ v6 : Int32, (v6.toInt = (L6.length : Int) + 1) → ∀ S6 : zB, (RpL S6 (L6 ++ [(c.toInt, i.toInt, y.toInt, e.toInt)])) → ∀ M6 : zM, (M6 = zbs M 4 S6) → K (some (zI (v6))) M6) ∧ ((¬ (M.1 4 0 4) < (6 : Int32)) → ∃ s7 : St, (RpX kd M s7) ∧ ∃ k7 : Nat, (k7 < 3 ∧ (-4 : Int32).toInt = -2 - (k7 : Int)) ∧ ∀ v7 : Int32, (v7 = (-4 : Int32)) → ∀ M7 : zM, (RpX kd M7 (sRf s7 k7)) → (fr9 M M7) → K (some (zI (v7))) M7)) ∧ ((v5 = 0) → ∃ s8 : St, (RpX kd M s8) ∧ ∃ k8 : Nat, (k8 < 3 ∧ (-2 : Int32).toInt = -2 - (k8 : Int)) ∧ ∀ v8 : Int32, (v8 = (-2 : Int32)) → ∀ M8 : zM, (RpX kd M8 (sRf s8 k8)) → (fr9 M M8) → K (some (zI (v8))) M8)))) : X 0 [some (zR 0 0), some (zI (c)), some (zI (i)), some (zI (y)), some (zI (e))] [] M := hX 31 0 _ [] M (show (kd 0 = 1) ∧ (kd 1 = 2) ∧ (kd 2 = 3) ∧ ∃ a1 : Sk, (RpS (M.1 2) a1) ∧ ∀ v1 : Int32, (v1 = zp ((sk_at a1 c.toInt i.toInt).isSome = true)) → ((v1 = 0) → (kd 0 = 1) ∧ ∃ s2 : St, (RpX kd M s2) ∧ ∃ k2 : Nat, (k2 < 3 ∧ (-2 : Int32).toInt = -2 - (k2 : Int)) ∧ ∀ v2 : Int32, (v2 = (-2 : Int32)) → ∀ M2 : zM, (RpX kd M2 (sRf s2 k2)) → (fr9 M M2) → K (some (zI (v2))) M2) ∧ ((¬ v1 = 0) → ∀ v3 : Int32, (v3 = zp (isY y.toInt)) → ((v3 = 0) → (kd 0 = 1) ∧ ∃ s4 : St, (RpX kd M s4) ∧ ∃ k4 : Nat, (k4 < 3 ∧ (-2 : Int32).toInt = -2 - (k4 : Int)) ∧ ∀ v4 : Int32, (v4 = (-2 : Int32)) → ∀ M4 : zM, (RpX kd M4 (sRf s4 k4)) → (fr9 M M4) → K (some (zI (v4))) M4) ∧ ((¬ v3 = 0) → ∀ v5 : Int32, (v5 = zp ((0 : Int32).toInt ≤ e.toInt ∧ e.toInt ≤ (1 : Int32).toInt)) → ((¬ v5 = 0) → (kd 0 = 1) ∧ (kd 1 = 2) ∧ (kd 4 = 5) ∧ (((M.1 4 0 4) < (6 : Int32)) → (kd 0 = 1) ∧ (kd 1 = 2) ∧ (kd 4 = 5) ∧ ∃ L6 : List Se, (RpL (M.1 4) L6) ∧ (L6.length < 6) ∧ (okSe (c.toInt, i.toInt, y.toInt, e.toInt)) ∧ ∀ v6 : Int32, (v6.toInt = (L6.length : Int) + 1) → ∀ S6 : zB, (RpL S6 (L6 ++ [(c.toInt, i.toInt, y.toInt, e.toInt)])) → ∀ M6 : zM, (M6 = zbs M 4 S6) → K (some (zI (v6))) M6) ∧ ((¬ (M.1 4 0 4) < (6 : Int32)) → (kd 0 = 1) ∧ ∃ s7 : St, (RpX kd M s7) ∧ ∃ k7 : Nat, (k7 < 3 ∧ (-4 : Int32).toInt = -2 - (k7 : Int)) ∧ ∀ v7 : Int32, (v7 = (-4 : Int32)) → ∀ M7 : zM, (RpX kd M7 (sRf s7 k7)) → (fr9 M M7) → K (some (zI (v7))) M7)) ∧ ((v5 = 0) → (kd 0 = 1) ∧ ∃ s8 : St, (RpX kd M s8) ∧ ∃ k8 : Nat, (k8 < 3 ∧ (-2 : Int32).toInt = -2 - (k8 : Int)) ∧ ∀ v8 : Int32, (v8 = (-2 : Int32)) → ∀ M8 : zM, (RpX kd M8 (sRf s8 k8)) → (fr9 M M8) → K (some (zI (v8))) M8))) from ⟨hk0, ⟨hk2, ⟨hk3, h.elim (fun a1 h => ⟨a1, ⟨h.1, have h := h.2; fun v1 => have h := h v1; fun q => have h := h q; ⟨fun q => have h := h.1 q; ⟨hk0, h.elim (fun s2 h => ⟨s2, ⟨h.1, have h := h.2; h.elim (fun k2 h => ⟨k2, ⟨h.1, have h := h.2; fun v2 => have h := h v2; fun q => have h := h q; fun M2 => have h := h M2; fun q => have h := h q; fun q => have h := h q; h⟩⟩)⟩⟩)⟩, fun q => have h := h.2 q; fun v3 => have h := h v3; fun q => have h := h q; ⟨fun q => have h := h.1 q; ⟨hk0, h.elim (fun s4 h => ⟨s4, ⟨h.1, have h := h.2; h.elim (fun k4 h => ⟨k4, ⟨h.1, have h := h.2; fun v4 => have h := h v4; fun q => have h := h q; fun M4 => have h := h M4; fun q => have h := h q; fun q => have h := h q; h⟩⟩)⟩⟩)⟩, fun q => have h := h.2 q; fun v5 => have h := h v5; fun q => have h := h q; ⟨fun q => have h := h.1 q; ⟨hk0, ⟨hk2, ⟨hk1, ⟨fun q => have h := h.1 q; ⟨hk0, ⟨hk2, ⟨hk1, h.elim (fun L6 h => ⟨L6, ⟨h.1, have h := h.2; ⟨h.1, have h := h.2; ⟨h.1, have h := h.2; fun v6 => have h := h v6; fun q => have h := h q; fun S6 => have h := h S6; fun q => have h := h q; fun M6 => have h := h M6; fun q => have h := h q; h⟩⟩⟩⟩)⟩⟩⟩, fun q => have h := h.2 q; ⟨hk0, h.elim (fun s7 h => ⟨s7, ⟨h.1, have h := h.2; h.elim (fun k7 h => ⟨k7, ⟨h.1, have h := h.2; fun v7 => have h := h v7; fun q => have h := h q; fun M7 => have h := h M7; fun q => have h := h q; fun q => have h := h q; h⟩⟩)⟩⟩)⟩⟩⟩⟩⟩, fun q => have h := h.2 q; ⟨hk0, h.elim (fun s8 h => ⟨s8, ⟨h.1, have h := h.2; h.elim (fun k8 h => ⟨k8, ⟨h.1, have h := h.2; fun v8 => have h := h v8; fun q => have h := h q; fun M8 => have h := h M8; fun q => have h := h q; fun q => have h := h q; h⟩⟩)⟩⟩)⟩⟩⟩⟩⟩⟩)⟩⟩⟩)
def sp_X7_forget : zSpec := fun kd as M K => match as with
  | [.inr (.inr (.inl (0, 0)))] => (kd 0 = 1) ∧ (KdX kd) ∧ ∃ s : St, (RpX kd M s) ∧ ∀ v : Int32, (v.toInt = (ev_forget s).1) → ∀ M' : zM, (RpX kd M' (ev_forget s).2) → (fr9 M M') → K (some (.inl v)) M'
  | _ => False
theorem rv_X7_forget : zrv sp_X7_forget 1 0 := by
  intro kd as M K h
  unfold sp_X7_forget at h
  split at h
  · exact ⟨_, _, rfl, h.1⟩
  · exact h.elim
theorem dd_X7_forget_0 : decode cX7_forget 0 = .ok (.aload_n 0, 1) := by decide +kernel
theorem dd_X7_forget_1 : decode cX7_forget 1 = .ok (.getfield 12, 3) := by decide +kernel
theorem dd_X7_forget_4 : decode cX7_forget 4 = .ok (.getfield 188, 3) := by decide +kernel
theorem dd_X7_forget_7 : decode cX7_forget 7 = .ok (.invokevirtual 197, 3) := by decide +kernel
theorem dd_X7_forget_10 : decode cX7_forget 10 = .ok (.ireturn, 1) := by decide +kernel
def tb_X7_forget (kd : Nat → Nat) (K : zK) : zTab := [(0, zt_aload 0 1), (1, zt_getR kd 1 1 0 4), (4, zt_getR kd 2 3 0 7), (7, zt_call kd sp_X0_empty 1 10), (10, zt_iret K)]
set_option maxRecDepth 20000 in
theorem tk_X7_forget (d : Nat) (h_X0_empty : zMS 1 yX0_empty cX0_empty 2 (some .int) sp_X0_empty) : zTrue RX7 cX7_forget 1 (some .int) (d + 2) (fun kd K => tb_X7_forget kd K) := by
  intro p l e R s m args below meth c D cy A ad bl Qm K C0 hr hlocks hQ
  obtain ⟨hx, hb, hml, hown, hts, hK, hD, hA0, hN, hE, ⟨hR1, hR2⟩, hc1, hc2⟩ := id C0
  unfold tb_X7_forget
  refine List.forall_mem_cons.mpr ⟨ok_aload_n hx hb rfl dd_X7_forget_0, ?_⟩
  refine List.forall_mem_cons.mpr ⟨ok_getR (j := 0) hx hb hts zi_X7 hown hK zc_X7 (by decide) rfl (fun t fl h => by cases h; rfl) (hts _ wd_271) dd_X7_forget_1, ?_⟩
  refine List.forall_mem_cons.mpr ⟨ok_getRN (j := 2) hx hb hts zi_X2 hown hK zc_X2 (by decide) rfl (fun t fl h => by cases h; rfl) (va_Nw.use rfl (hN _ nd_205)) dd_X7_forget_4, ?_⟩
  refine List.forall_mem_cons.mpr ⟨ok_callVN (n := 0) zc_X0 rv_X0_empty C0 (h_X0_empty (d + 1) (by omega)) (by decide) wd_707 nd_704 wd_706 wd_49 wd_104 ⟨by decide +kernel, by decide +kernel, by decide +kernel⟩ dd_X7_forget_7, ?_⟩
  refine List.forall_mem_cons.mpr ⟨ok_iret hx hb hr hlocks hQ dd_X7_forget_10, ?_⟩
  exact fun _ h => absurd h List.not_mem_nil
set_option maxRecDepth 100000 in
theorem vc_X7_forget_0 {kd : Nat → Nat} {K : zK} {X : zX} (hX : ∀ (n pc : Nat) (ls : zLS) (st : List zV) (M : zM), zrun (tb_X7_forget kd K) [] n X pc ls st M → X pc ls st M)  {M : zM} (hk0 : kd 4 = 5) (hk1 : kd 1 = 2) (hk2 : kd 0 = 1) (h : ∃ L1 : List Se, (RpL (M.1 4) L1) ∧ ∀ v1 : Int32, (v1.toInt = (L1.length : Int)) → ∀ S1 : zB, (RpL S1 []) → ∀ M1 : zM, (M1 = zbs M 4 S1) → K (some (zI (v1))) M1) : X 0 [some (zR 0 0)] [] M := hX 6 0 _ [] M (show (kd 0 = 1) ∧ (kd 1 = 2) ∧ (kd 4 = 5) ∧ ∃ L1 : List Se, (RpL (M.1 4) L1) ∧ ∀ v1 : Int32, (v1.toInt = (L1.length : Int)) → ∀ S1 : zB, (RpL S1 []) → ∀ M1 : zM, (M1 = zbs M 4 S1) → K (some (zI (v1))) M1 from ⟨hk2, ⟨hk1, ⟨hk0, h.elim (fun L1 h => ⟨L1, ⟨h.1, have h := h.2; fun v1 => have h := h v1; fun q => have h := h q; fun S1 => have h := h S1; fun q => have h := h q; fun M1 => have h := h M1; fun q => have h := h q; h⟩⟩)⟩⟩⟩)
def sp_X7_is : zSpec := fun kd as M K => match as with
  | [.inr (.inr (.inl (0, 0))), .inl c, .inl i] => (kd 0 = 1) ∧ (KdX kd) ∧ ∃ s : St, (RpX kd M s) ∧ ∀ v : Int32, (v.toInt = (ev_is s c.toInt i.toInt).1) → ∀ M' : zM, (RpX kd M' (ev_is s c.toInt i.toInt).2) → (fr9 M M') → K (some (.inl v)) M'
  | _ => False
theorem rv_X7_is : zrv sp_X7_is 1 2 := by
  intro kd as M K h
  unfold sp_X7_is at h
  split at h
  · exact ⟨_, _, rfl, h.1⟩
  · exact h.elim
theorem dd_X7_is_0 : decode cX7_is 0 = .ok (.aload_n 0, 1) := by decide +kernel
theorem dd_X7_is_1 : decode cX7_is 1 = .ok (.getfield 12, 3) := by decide +kernel
theorem dd_X7_is_4 : decode cX7_is 4 = .ok (.getfield 52, 3) := by decide +kernel
theorem dd_X7_is_7 : decode cX7_is 7 = .ok (.iload_n 1, 1) := by decide +kernel
theorem dd_X7_is_8 : decode cX7_is 8 = .ok (.iload_n 2, 1) := by decide +kernel
theorem dd_X7_is_9 : decode cX7_is 9 = .ok (.invokevirtual 144, 3) := by decide +kernel
theorem dd_X7_is_12 : decode cX7_is 12 = .ok (.ifCond .eq 25, 3) := by decide +kernel
theorem dd_X7_is_15 : decode cX7_is 15 = .ok (.aload_n 0, 1) := by decide +kernel
theorem dd_X7_is_16 : decode cX7_is 16 = .ok (.getfield 12, 3) := by decide +kernel
theorem dd_X7_is_19 : decode cX7_is 19 = .ok (.getfield 188, 3) := by decide +kernel
theorem dd_X7_is_22 : decode cX7_is 22 = .ok (.aload_n 0, 1) := by decide +kernel
theorem dd_X7_is_23 : decode cX7_is 23 = .ok (.getfield 12, 3) := by decide +kernel
theorem dd_X7_is_26 : decode cX7_is 26 = .ok (.getfield 52, 3) := by decide +kernel
theorem dd_X7_is_29 : decode cX7_is 29 = .ok (.iload_n 1, 1) := by decide +kernel
theorem dd_X7_is_30 : decode cX7_is 30 = .ok (.iload_n 2, 1) := by decide +kernel
theorem dd_X7_is_31 : decode cX7_is 31 = .ok (.invokevirtual 198, 3) := by decide +kernel
theorem dd_X7_is_34 : decode cX7_is 34 = .ok (.goto 9, 3) := by decide +kernel
theorem dd_X7_is_37 : decode cX7_is 37 = .ok (.aload_n 0, 1) := by decide +kernel
theorem dd_X7_is_38 : decode cX7_is 38 = .ok (.bipush (-2), 2) := by decide +kernel
theorem dd_X7_is_40 : decode cX7_is 40 = .ok (.invokevirtual 73, 3) := by decide +kernel
theorem dd_X7_is_43 : decode cX7_is 43 = .ok (.ireturn, 1) := by decide +kernel
def tb_X7_is (kd : Nat → Nat) (K : zK) : zTab := [(0, zt_aload 0 1), (1, zt_getR kd 1 1 0 4), (4, zt_getR kd 2 1 0 7), (7, zt_iload 1 8), (8, zt_iload 2 9), (9, zt_call kd sp_X3_has 3 12), (12, zt_if (fun x => x = 0) (fun x => ¬ x = 0) 37 15), (15, zt_aload 0 16), (16, zt_getR kd 1 1 0 19), (19, zt_getR kd 2 3 0 22), (22, zt_aload 0 23), (23, zt_getR kd 1 1 0 26), (26, zt_getR kd 2 1 0 29), (29, zt_iload 1 30), (30, zt_iload 2 31), (31, zt_call kd sp_X0_fitting 4 34), (34, zt_goto 43), (37, zt_aload 0 38), (38, zt_const (zI (-2)) 40), (40, zt_call kd sp_X7_refuse 2 43), (43, zt_iret K)]
set_option maxRecDepth 20000 in
theorem tk_X7_is (d : Nat) (h_X3_has : zMS 2 yX3_has cX3_has 3 (some .boolean) sp_X3_has) (h_X0_fitting : zMS 5 yX0_fitting cX0_fitting 6 (some .int) sp_X0_fitting) (h_X7_refuse : zMS 2 yX7_refuse cX7_refuse 3 (some .int) sp_X7_refuse) : zTrue RX7 cX7_is 3 (some .int) (d + 6) (fun kd K => tb_X7_is kd K) := by
  intro p l e R s m args below meth c D cy A ad bl Qm K C0 hr hlocks hQ
  obtain ⟨hx, hb, hml, hown, hts, hK, hD, hA0, hN, hE, ⟨hR1, hR2⟩, hc1, hc2⟩ := id C0
  unfold tb_X7_is
  refine List.forall_mem_cons.mpr ⟨ok_aload_n hx hb rfl dd_X7_is_0, ?_⟩
  refine List.forall_mem_cons.mpr ⟨ok_getR (j := 0) hx hb hts zi_X7 hown hK zc_X7 (by decide) rfl (fun t fl h => by cases h; rfl) (hts _ wd_271) dd_X7_is_1, ?_⟩
  refine List.forall_mem_cons.mpr ⟨ok_getRN (j := 0) hx hb hts zi_X2 hown hK zc_X2 (by decide) rfl (fun t fl h => by cases h; rfl) (va_Nw.use rfl (hN _ nd_201)) dd_X7_is_4, ?_⟩
  refine List.forall_mem_cons.mpr ⟨ok_iload_n hx hb rfl dd_X7_is_7, ?_⟩
  refine List.forall_mem_cons.mpr ⟨ok_iload_n hx hb rfl dd_X7_is_8, ?_⟩
  refine List.forall_mem_cons.mpr ⟨ok_callVN (n := 2) zc_X3 rv_X3_has C0 (h_X3_has (d + 5) (by omega)) (by decide) wd_547 nd_544 wd_546 wd_24 wd_102 ⟨by decide +kernel, by decide +kernel, by decide +kernel⟩ dd_X7_is_9, ?_⟩
  refine List.forall_mem_cons.mpr ⟨ok_if_eq hx hb dd_X7_is_12 (by decide), ?_⟩
  refine List.forall_mem_cons.mpr ⟨ok_aload_n hx hb rfl dd_X7_is_15, ?_⟩
  refine List.forall_mem_cons.mpr ⟨ok_getR (j := 0) hx hb hts zi_X7 hown hK zc_X7 (by decide) rfl (fun t fl h => by cases h; rfl) (hts _ wd_271) dd_X7_is_16, ?_⟩
  refine List.forall_mem_cons.mpr ⟨ok_getRN (j := 2) hx hb hts zi_X2 hown hK zc_X2 (by decide) rfl (fun t fl h => by cases h; rfl) (va_Nw.use rfl (hN _ nd_205)) dd_X7_is_19, ?_⟩
  refine List.forall_mem_cons.mpr ⟨ok_aload_n hx hb rfl dd_X7_is_22, ?_⟩
  refine List.forall_mem_cons.mpr ⟨ok_getR (j := 0) hx hb hts zi_X7 hown hK zc_X7 (by decide) rfl (fun t fl h => by cases h; rfl) (hts _ wd_271) dd_X7_is_23, ?_⟩
  refine List.forall_mem_cons.mpr ⟨ok_getRN (j := 0) hx hb hts zi_X2 hown hK zc_X2 (by decide) rfl (fun t fl h => by cases h; rfl) (va_Nw.use rfl (hN _ nd_201)) dd_X7_is_26, ?_⟩
  refine List.forall_mem_cons.mpr ⟨ok_iload_n hx hb rfl dd_X7_is_29, ?_⟩
  refine List.forall_mem_cons.mpr ⟨ok_iload_n hx hb rfl dd_X7_is_30, ?_⟩
  refine List.forall_mem_cons.mpr ⟨ok_callVN (n := 3) zc_X0 rv_X0_fitting C0 (h_X0_fitting (d + 5) (by omega)) (by decide) wd_715 nd_712 wd_714 wd_50 wd_104 ⟨by decide +kernel, by decide +kernel, by decide +kernel⟩ dd_X7_is_31, ?_⟩
  refine List.forall_mem_cons.mpr ⟨ok_goto hx hb dd_X7_is_34 (by decide), ?_⟩
  refine List.forall_mem_cons.mpr ⟨ok_aload_n hx hb rfl dd_X7_is_37, ?_⟩
  refine List.forall_mem_cons.mpr ⟨ok_bipush hx hb dd_X7_is_38 (by decide), ?_⟩
  refine List.forall_mem_cons.mpr ⟨ok_callV (n := 1) zc_X7 rv_X7_refuse C0 (h_X7_refuse (d + 5) (by omega)) (by decide) wd_328 wd_325 wd_327 wd_3 wd_100 ⟨rfl, by decide +kernel, by decide +kernel, by decide +kernel⟩ dd_X7_is_40, ?_⟩
  refine List.forall_mem_cons.mpr ⟨ok_iret hx hb hr hlocks hQ dd_X7_is_43, ?_⟩
  exact fun _ h => absurd h List.not_mem_nil
set_option maxRecDepth 100000 in
theorem vc_X7_is_0 {kd : Nat → Nat} {K : zK} {X : zX} (hX : ∀ (n pc : Nat) (ls : zLS) (st : List zV) (M : zM), zrun (tb_X7_is kd K) [] n X pc ls st M → X pc ls st M) {c : Int32} {i : Int32} {M : zM} (hk0 : kd 0 = 1) (hk1 : kd 2 = 3) (hk2 : kd 4 = 5) (hk3 : kd 1 = 2) (h : ∃ a1 : Sk, (RpS (M.1 2) a1) ∧ ∀ v1 : Int32, (v1 = zp ((sk_at a1 c.toInt i.toInt).isSome = true)) → ((v1 = 0) → ∃ s2 : St, (RpX kd M s2) ∧ ∃ k2 : Nat, (k2 < 3 ∧ (-2 : Int32).toInt = -2 - (k2 : Int)) ∧ ∀ v2 : Int32, (v2 = (-2 : Int32)) → ∀ M2 : zM, (RpX kd M2 (sRf s2 k2)) → (fr9 M M2) → K (some (zI (v2))) M2) ∧ ((¬ v1 = 0) → ∃ L3 : List Se, (RpL (M.1 4) L3) ∧ ∃ a3 : Sk, (RpS (M.1 2) a3) ∧ ∃ l3 : Ly, (sk_at a3 c.toInt i.toInt = some l3) ∧ ∀ v3 : Int32, (v3.toInt = seFit L3 l3 (sk_at a3 c.toInt (i.toInt + 1)) c.toInt i.toInt) → K (some (zI (v3))) M)) : X 0 [some (zR 0 0), some (zI (c)), some (zI (i))] [] M := hX 19 0 _ [] M (show (kd 0 = 1) ∧ (kd 1 = 2) ∧ (kd 2 = 3) ∧ ∃ a1 : Sk, (RpS (M.1 2) a1) ∧ ∀ v1 : Int32, (v1 = zp ((sk_at a1 c.toInt i.toInt).isSome = true)) → ((v1 = 0) → (kd 0 = 1) ∧ ∃ s2 : St, (RpX kd M s2) ∧ ∃ k2 : Nat, (k2 < 3 ∧ (-2 : Int32).toInt = -2 - (k2 : Int)) ∧ ∀ v2 : Int32, (v2 = (-2 : Int32)) → ∀ M2 : zM, (RpX kd M2 (sRf s2 k2)) → (fr9 M M2) → K (some (zI (v2))) M2) ∧ ((¬ v1 = 0) → (kd 0 = 1) ∧ (kd 1 = 2) ∧ (kd 0 = 1) ∧ (kd 1 = 2) ∧ (kd 4 = 5) ∧ (kd 2 = 3) ∧ ∃ L3 : List Se, (RpL (M.1 4) L3) ∧ ∃ a3 : Sk, (RpS (M.1 2) a3) ∧ ∃ l3 : Ly, (sk_at a3 c.toInt i.toInt = some l3) ∧ ∀ v3 : Int32, (v3.toInt = seFit L3 l3 (sk_at a3 c.toInt (i.toInt + 1)) c.toInt i.toInt) → K (some (zI (v3))) M) from ⟨hk0, ⟨hk3, ⟨hk1, h.elim (fun a1 h => ⟨a1, ⟨h.1, have h := h.2; fun v1 => have h := h v1; fun q => have h := h q; ⟨fun q => have h := h.1 q; ⟨hk0, h.elim (fun s2 h => ⟨s2, ⟨h.1, have h := h.2; h.elim (fun k2 h => ⟨k2, ⟨h.1, have h := h.2; fun v2 => have h := h v2; fun q => have h := h q; fun M2 => have h := h M2; fun q => have h := h q; fun q => have h := h q; h⟩⟩)⟩⟩)⟩, fun q => have h := h.2 q; ⟨hk0, ⟨hk3, ⟨hk0, ⟨hk3, ⟨hk2, ⟨hk1, h.elim (fun L3 h => ⟨L3, ⟨h.1, have h := h.2; h.elim (fun a3 h => ⟨a3, ⟨h.1, have h := h.2; h.elim (fun l3 h => ⟨l3, ⟨h.1, have h := h.2; fun v3 => have h := h v3; fun q => have h := h q; h⟩⟩)⟩⟩)⟩⟩)⟩⟩⟩⟩⟩⟩⟩⟩⟩)⟩⟩⟩)
def sp_X7_from : zSpec := fun kd as M K => match as with
  | [.inr (.inr (.inl (0, 0))), .inl j] => (kd 0 = 1) ∧ (KdX kd) ∧ ∃ s : St, (RpX kd M s) ∧ ∀ v : Int32, (v.toInt = (ev_from s j.toInt).1) → ∀ M' : zM, (RpX kd M' (ev_from s j.toInt).2) → (fr9 M M') → K (some (.inl v)) M'
  | _ => False
theorem rv_X7_from : zrv sp_X7_from 1 1 := by
  intro kd as M K h
  unfold sp_X7_from at h
  split at h
  · exact ⟨_, _, rfl, h.1⟩
  · exact h.elim
theorem dd_X7_from_0 : decode cX7_from 0 = .ok (.iload_n 1, 1) := by decide +kernel
theorem dd_X7_from_1 : decode cX7_from 1 = .ok (.invokestatic 239, 3) := by decide +kernel
theorem dd_X7_from_4 : decode cX7_from 4 = .ok (.ifCond .ne 10, 3) := by decide +kernel
theorem dd_X7_from_7 : decode cX7_from 7 = .ok (.aload_n 0, 1) := by decide +kernel
theorem dd_X7_from_8 : decode cX7_from 8 = .ok (.bipush (-2), 2) := by decide +kernel
theorem dd_X7_from_10 : decode cX7_from 10 = .ok (.invokevirtual 73, 3) := by decide +kernel
theorem dd_X7_from_13 : decode cX7_from 13 = .ok (.ireturn, 1) := by decide +kernel
theorem dd_X7_from_14 : decode cX7_from 14 = .ok (.aload_n 0, 1) := by decide +kernel
theorem dd_X7_from_15 : decode cX7_from 15 = .ok (.getfield 16, 3) := by decide +kernel
theorem dd_X7_from_18 : decode cX7_from 18 = .ok (.iload_n 1, 1) := by decide +kernel
theorem dd_X7_from_19 : decode cX7_from 19 = .ok (.aaload, 1) := by decide +kernel
theorem dd_X7_from_20 : decode cX7_from 20 = .ok (.astore_n 2, 1) := by decide +kernel
theorem dd_X7_from_21 : decode cX7_from 21 = .ok (.aload_n 2, 1) := by decide +kernel
theorem dd_X7_from_22 : decode cX7_from 22 = .ok (.ifnonnull 10, 3) := by decide +kernel
theorem dd_X7_from_25 : decode cX7_from 25 = .ok (.aload_n 0, 1) := by decide +kernel
theorem dd_X7_from_26 : decode cX7_from 26 = .ok (.bipush (-3), 2) := by decide +kernel
theorem dd_X7_from_28 : decode cX7_from 28 = .ok (.invokevirtual 73, 3) := by decide +kernel
theorem dd_X7_from_31 : decode cX7_from 31 = .ok (.ireturn, 1) := by decide +kernel
theorem dd_X7_from_32 : decode cX7_from 32 = .ok (.aload_n 0, 1) := by decide +kernel
theorem dd_X7_from_33 : decode cX7_from 33 = .ok (.getfield 12, 3) := by decide +kernel
theorem dd_X7_from_36 : decode cX7_from 36 = .ok (.aload_n 2, 1) := by decide +kernel
theorem dd_X7_from_37 : decode cX7_from 37 = .ok (.invokevirtual 242, 3) := by decide +kernel
theorem dd_X7_from_40 : decode cX7_from 40 = .ok (.iconst 1, 1) := by decide +kernel
theorem dd_X7_from_41 : decode cX7_from 41 = .ok (.ireturn, 1) := by decide +kernel
def tb_X7_from (kd : Nat → Nat) (K : zK) : zTab := [(0, zt_iload 1 1), (1, zt_call kd sp_X7_isImage 1 4), (4, zt_if (fun x => ¬ x = 0) (fun x => x = 0) 14 7), (7, zt_aload 0 8), (8, zt_const (zI (-2)) 10), (10, zt_call kd sp_X7_refuse 2 13), (13, zt_iret K), (14, zt_aload 0 15), (15, zt_getR kd 1 0 1 18), (18, zt_iload 1 19), (19, zt_aald kd 20), (20, zt_astore 2 21), (21, zt_aload 2 22), (22, zt_ifnn 32 25), (25, zt_aload 0 26), (26, zt_const (zI (-3)) 28), (28, zt_call kd sp_X7_refuse 2 31), (31, zt_iret K), (32, zt_aload 0 33), (33, zt_getR kd 1 1 0 36), (36, zt_aload 2 37), (37, zt_call kd sp_X2_take 2 40), (40, zt_const (zI 1) 41), (41, zt_iret K)]
set_option maxRecDepth 20000 in
theorem tk_X7_from (d : Nat) (h_X7_isImage : zMS 1 yX7_isImage cX7_isImage 1 (some .boolean) sp_X7_isImage) (h_X7_refuse : zMS 2 yX7_refuse cX7_refuse 3 (some .int) sp_X7_refuse) (h_X2_take : zMS 2 yX2_take cX2_take 2 none sp_X2_take) : zTrue RX7 cX7_from 3 (some .int) (d + 3) (fun kd K => tb_X7_from kd K) := by
  intro p l e R s m args below meth c D cy A ad bl Qm K C0 hr hlocks hQ
  obtain ⟨hx, hb, hml, hown, hts, hK, hD, hA0, hN, hE, ⟨hR1, hR2⟩, hc1, hc2⟩ := id C0
  unfold tb_X7_from
  refine List.forall_mem_cons.mpr ⟨ok_iload_n hx hb rfl dd_X7_from_0, ?_⟩
  refine List.forall_mem_cons.mpr ⟨ok_callS (n := 1) C0 (h_X7_isImage (d + 2) (by omega)) (by decide) wd_779 wd_777 wd_778 wd_100 ⟨by decide +kernel, by decide +kernel, by decide +kernel⟩ dd_X7_from_1, ?_⟩
  refine List.forall_mem_cons.mpr ⟨ok_if_ne hx hb dd_X7_from_4 (by decide), ?_⟩
  refine List.forall_mem_cons.mpr ⟨ok_aload_n hx hb rfl dd_X7_from_7, ?_⟩
  refine List.forall_mem_cons.mpr ⟨ok_bipush hx hb dd_X7_from_8 (by decide), ?_⟩
  refine List.forall_mem_cons.mpr ⟨ok_callV (n := 1) zc_X7 rv_X7_refuse C0 (h_X7_refuse (d + 2) (by omega)) (by decide) wd_328 wd_325 wd_327 wd_3 wd_100 ⟨rfl, by decide +kernel, by decide +kernel, by decide +kernel⟩ dd_X7_from_10, ?_⟩
  refine List.forall_mem_cons.mpr ⟨ok_iret hx hb hr hlocks hQ dd_X7_from_13, ?_⟩
  refine List.forall_mem_cons.mpr ⟨ok_aload_n hx hb rfl dd_X7_from_14, ?_⟩
  refine List.forall_mem_cons.mpr ⟨ok_getR (j := 1) hx hb hts zi_X7 hown hK zc_X7 (by decide) rfl (fun t fl h => by cases h; rfl) (hts _ wd_272) dd_X7_from_15, ?_⟩
  refine List.forall_mem_cons.mpr ⟨ok_iload_n hx hb rfl dd_X7_from_18, ?_⟩
  refine List.forall_mem_cons.mpr ⟨ok_aald hx hb hK dd_X7_from_19, ?_⟩
  refine List.forall_mem_cons.mpr ⟨ok_astore_n hx hb rfl dd_X7_from_20, ?_⟩
  refine List.forall_mem_cons.mpr ⟨ok_aload_n hx hb rfl dd_X7_from_21, ?_⟩
  refine List.forall_mem_cons.mpr ⟨ok_ifnonnull hx hb dd_X7_from_22 (by decide), ?_⟩
  refine List.forall_mem_cons.mpr ⟨ok_aload_n hx hb rfl dd_X7_from_25, ?_⟩
  refine List.forall_mem_cons.mpr ⟨ok_bipush hx hb dd_X7_from_26 (by decide), ?_⟩
  refine List.forall_mem_cons.mpr ⟨ok_callV (n := 1) zc_X7 rv_X7_refuse C0 (h_X7_refuse (d + 2) (by omega)) (by decide) wd_328 wd_325 wd_327 wd_3 wd_100 ⟨rfl, by decide +kernel, by decide +kernel, by decide +kernel⟩ dd_X7_from_28, ?_⟩
  refine List.forall_mem_cons.mpr ⟨ok_iret hx hb hr hlocks hQ dd_X7_from_31, ?_⟩
  refine List.forall_mem_cons.mpr ⟨ok_aload_n hx hb rfl dd_X7_from_32, ?_⟩
  refine List.forall_mem_cons.mpr ⟨ok_getR (j := 0) hx hb hts zi_X7 hown hK zc_X7 (by decide) rfl (fun t fl h => by cases h; rfl) (hts _ wd_271) dd_X7_from_33, ?_⟩
  refine List.forall_mem_cons.mpr ⟨ok_aload_n hx hb rfl dd_X7_from_36, ?_⟩
  refine List.forall_mem_cons.mpr ⟨ok_callVN (n := 1) zc_X2 rv_X2_take C0 (h_X2_take (d + 2) (by omega)) (by decide) wd_783 nd_780 wd_782 wd_56 wd_101 ⟨by decide +kernel, by decide +kernel, by decide +kernel⟩ dd_X7_from_37, ?_⟩
  refine List.forall_mem_cons.mpr ⟨ok_iconst hx hb dd_X7_from_40 (by decide), ?_⟩
  refine List.forall_mem_cons.mpr ⟨ok_iret hx hb hr hlocks hQ dd_X7_from_41, ?_⟩
  exact fun _ h => absurd h List.not_mem_nil
set_option maxRecDepth 100000 in
theorem vc_X7_from_0 {kd : Nat → Nat} {K : zK} {X : zX} (hX : ∀ (n pc : Nat) (ls : zLS) (st : List zV) (M : zM), zrun (tb_X7_from kd K) [] n X pc ls st M → X pc ls st M) {j : Int32} {M : zM} (hk0 : kd (1 + 3) = 5) (hk1 : kd (1 + 2) = 4) (hk2 : kd (1 + 1) = 3) (hk3 : kd 1 = 2) (hk4 : kd 0 = 1) (h : ∀ v1 : Int32, (v1 = zp (inn j.toInt 0 1)) → ((¬ v1 = 0) → (vp_in j 2) ∧ ((kd (10 + 4 * (j).toNatClampNeg) = 2) → (kd (10 + 4 * (j).toNatClampNeg) = 2) ∧ (kd ((10 + 4 * (j).toNatClampNeg) + 1) = 3) ∧ (kd ((10 + 4 * (j).toNatClampNeg) + 2) = 4) ∧ (kd ((10 + 4 * (j).toNatClampNeg) + 3) = 5) ∧ (1 + 3 < (10 + 4 * (j).toNatClampNeg) ∨ (10 + 4 * (j).toNatClampNeg) + 3 < 1) ∧ ∃ a2 : Sk, (RpS (M.1 ((10 + 4 * (j).toNatClampNeg) + 1)) a2) ∧ ∃ L2 : List Int, (RpT (M.1 ((10 + 4 * (j).toNatClampNeg) + 2)) L2) ∧ ∃ Q2 : List Se, (RpL (M.1 ((10 + 4 * (j).toNatClampNeg) + 3)) Q2) ∧ ∀ S12 : zB, (RpS S12 a2) → ∀ S22 : zB, (RpT S22 L2) → ∀ S32 : zB, (RpL S32 Q2) → ∀ M2 : zM, (M2 = zbs (zbs (zbs M (1 + 1) S12) (1 + 2) S22) (1 + 3) S32) → K (some (zI ((1 : Int32)))) M2) ∧ ((¬ kd (10 + 4 * (j).toNatClampNeg) = 2) → ∃ s3 : St, (RpX kd M s3) ∧ ∃ k3 : Nat, (k3 < 3 ∧ (-3 : Int32).toInt = -2 - (k3 : Int)) ∧ ∀ v3 : Int32, (v3 = (-3 : Int32)) → ∀ M3 : zM, (RpX kd M3 (sRf s3 k3)) → (fr9 M M3) → K (some (zI (v3))) M3)) ∧ ((v1 = 0) → ∃ s4 : St, (RpX kd M s4) ∧ ∃ k4 : Nat, (k4 < 3 ∧ (-2 : Int32).toInt = -2 - (k4 : Int)) ∧ ∀ v4 : Int32, (v4 = (-2 : Int32)) → ∀ M4 : zM, (RpX kd M4 (sRf s4 k4)) → (fr9 M M4) → K (some (zI (v4))) M4)) : X 0 [some (zR 0 0), some (zI (j)), none] [] M := hX 17 0 _ [] M (show ∀ v1 : Int32, (v1 = zp (inn j.toInt 0 1)) → ((¬ v1 = 0) → (kd 0 = 1) ∧ (kd 0 = 1) ∧ (1 = 1) ∧ (vp_in j 2) ∧ ((kd (10 + 4 * (j).toNatClampNeg) = 2) → (kd 0 = 1) ∧ (kd 1 = 2) ∧ (kd (1 + 1) = 3) ∧ (kd (1 + 2) = 4) ∧ (kd (1 + 3) = 5) ∧ (kd (10 + 4 * (j).toNatClampNeg) = 2) ∧ (kd ((10 + 4 * (j).toNatClampNeg) + 1) = 3) ∧ (kd ((10 + 4 * (j).toNatClampNeg) + 2) = 4) ∧ (kd ((10 + 4 * (j).toNatClampNeg) + 3) = 5) ∧ (1 + 3 < (10 + 4 * (j).toNatClampNeg) ∨ (10 + 4 * (j).toNatClampNeg) + 3 < 1) ∧ ∃ a2 : Sk, (RpS (M.1 ((10 + 4 * (j).toNatClampNeg) + 1)) a2) ∧ ∃ L2 : List Int, (RpT (M.1 ((10 + 4 * (j).toNatClampNeg) + 2)) L2) ∧ ∃ Q2 : List Se, (RpL (M.1 ((10 + 4 * (j).toNatClampNeg) + 3)) Q2) ∧ ∀ S12 : zB, (RpS S12 a2) → ∀ S22 : zB, (RpT S22 L2) → ∀ S32 : zB, (RpL S32 Q2) → ∀ M2 : zM, (M2 = zbs (zbs (zbs M (1 + 1) S12) (1 + 2) S22) (1 + 3) S32) → K (some (zI ((1 : Int32)))) M2) ∧ ((¬ kd (10 + 4 * (j).toNatClampNeg) = 2) → (kd 0 = 1) ∧ ∃ s3 : St, (RpX kd M s3) ∧ ∃ k3 : Nat, (k3 < 3 ∧ (-3 : Int32).toInt = -2 - (k3 : Int)) ∧ ∀ v3 : Int32, (v3 = (-3 : Int32)) → ∀ M3 : zM, (RpX kd M3 (sRf s3 k3)) → (fr9 M M3) → K (some (zI (v3))) M3)) ∧ ((v1 = 0) → (kd 0 = 1) ∧ ∃ s4 : St, (RpX kd M s4) ∧ ∃ k4 : Nat, (k4 < 3 ∧ (-2 : Int32).toInt = -2 - (k4 : Int)) ∧ ∀ v4 : Int32, (v4 = (-2 : Int32)) → ∀ M4 : zM, (RpX kd M4 (sRf s4 k4)) → (fr9 M M4) → K (some (zI (v4))) M4) from fun v1 => have h := h v1; fun q => have h := h q; ⟨fun q => have h := h.1 q; ⟨hk4, ⟨hk4, ⟨rfl, ⟨h.1, have h := h.2; ⟨fun q => have h := h.1 q; ⟨hk4, ⟨hk3, ⟨hk2, ⟨hk1, ⟨hk0, ⟨h.1, have h := h.2; ⟨h.1, have h := h.2; ⟨h.1, have h := h.2; ⟨h.1, have h := h.2; ⟨h.1, have h := h.2; h.elim (fun a2 h => ⟨a2, ⟨h.1, have h := h.2; h.elim (fun L2 h => ⟨L2, ⟨h.1, have h := h.2; h.elim (fun Q2 h => ⟨Q2, ⟨h.1, have h := h.2; fun S12 => have h := h S12; fun q => have h := h q; fun S22 => have h := h S22; fun q => have h := h q; fun S32 => have h := h S32; fun q => have h := h q; fun M2 => have h := h M2; fun q => have h := h q; h⟩⟩)⟩⟩)⟩⟩)⟩⟩⟩⟩⟩⟩⟩⟩⟩⟩, fun q => have h := h.2 q; ⟨hk4, h.elim (fun s3 h => ⟨s3, ⟨h.1, have h := h.2; h.elim (fun k3 h => ⟨k3, ⟨h.1, have h := h.2; fun v3 => have h := h v3; fun q => have h := h q; fun M3 => have h := h M3; fun q => have h := h q; fun q => have h := h q; h⟩⟩)⟩⟩)⟩⟩⟩⟩⟩⟩, fun q => have h := h.2 q; ⟨hk4, h.elim (fun s4 h => ⟨s4, ⟨h.1, have h := h.2; h.elim (fun k4 h => ⟨k4, ⟨h.1, have h := h.2; fun v4 => have h := h v4; fun q => have h := h q; fun M4 => have h := h M4; fun q => have h := h q; fun q => have h := h q; h⟩⟩)⟩⟩)⟩⟩)
def sp_X7_status : zSpec := fun kd as M K => match as with
  | [.inr (.inr (.inl (0, 0))), .inl w] => (kd 0 = 1) ∧ (KdX kd) ∧ ∃ s : St, (RpX kd M s) ∧ ∀ v : Int32, (v.toInt = (ev_status s w.toInt).1) → ∀ M' : zM, (RpX kd M' (ev_status s w.toInt).2) → (fr9 M M') → K (some (.inl v)) M'
  | _ => False
theorem rv_X7_status : zrv sp_X7_status 1 1 := by
  intro kd as M K h
  unfold sp_X7_status at h
  split at h
  · exact ⟨_, _, rfl, h.1⟩
  · exact h.elim
theorem dd_X7_status_0 : decode cX7_status 0 = .ok (.iload_n 1, 1) := by decide +kernel
theorem dd_X7_status_1 : decode cX7_status 1 = .ok (.iconst 0, 1) := by decide +kernel
theorem dd_X7_status_2 : decode cX7_status 2 = .ok (.iconst 2, 1) := by decide +kernel
theorem dd_X7_status_3 : decode cX7_status 3 = .ok (.invokestatic 66, 3) := by decide +kernel
theorem dd_X7_status_6 : decode cX7_status 6 = .ok (.ifCond .ne 12, 3) := by decide +kernel
theorem dd_X7_status_9 : decode cX7_status 9 = .ok (.aload_n 0, 1) := by decide +kernel
theorem dd_X7_status_10 : decode cX7_status 10 = .ok (.bipush (-2), 2) := by decide +kernel
theorem dd_X7_status_12 : decode cX7_status 12 = .ok (.invokevirtual 73, 3) := by decide +kernel
theorem dd_X7_status_15 : decode cX7_status 15 = .ok (.pop, 1) := by decide +kernel
theorem dd_X7_status_16 : decode cX7_status 16 = .ok (.iconst (-1), 1) := by decide +kernel
theorem dd_X7_status_17 : decode cX7_status 17 = .ok (.ireturn, 1) := by decide +kernel
theorem dd_X7_status_18 : decode cX7_status 18 = .ok (.aload_n 0, 1) := by decide +kernel
theorem dd_X7_status_19 : decode cX7_status 19 = .ok (.getfield 41, 3) := by decide +kernel
theorem dd_X7_status_22 : decode cX7_status 22 = .ok (.iload_n 1, 1) := by decide +kernel
theorem dd_X7_status_23 : decode cX7_status 23 = .ok (.iaload, 1) := by decide +kernel
theorem dd_X7_status_24 : decode cX7_status 24 = .ok (.ireturn, 1) := by decide +kernel
def tb_X7_status (kd : Nat → Nat) (K : zK) : zTab := [(0, zt_iload 1 1), (1, zt_const (zI 0) 2), (2, zt_const (zI 2) 3), (3, zt_call kd sp_X7_within 3 6), (6, zt_if (fun x => ¬ x = 0) (fun x => x = 0) 18 9), (9, zt_aload 0 10), (10, zt_const (zI (-2)) 12), (12, zt_call kd sp_X7_refuse 2 15), (15, zt_pop 16), (16, zt_const (zI (-1)) 17), (17, zt_iret K), (18, zt_aload 0 19), (19, zt_getR kd 1 0 2 22), (22, zt_iload 1 23), (23, zt_ald kd 0 24), (24, zt_iret K)]
set_option maxRecDepth 20000 in
theorem tk_X7_status (d : Nat) (h_X7_within : zMS 1 yX7_within cX7_within 3 (some .boolean) sp_X7_within) (h_X7_refuse : zMS 2 yX7_refuse cX7_refuse 3 (some .int) sp_X7_refuse) : zTrue RX7 cX7_status 2 (some .int) (d + 3) (fun kd K => tb_X7_status kd K) := by
  intro p l e R s m args below meth c D cy A ad bl Qm K C0 hr hlocks hQ
  obtain ⟨hx, hb, hml, hown, hts, hK, hD, hA0, hN, hE, ⟨hR1, hR2⟩, hc1, hc2⟩ := id C0
  unfold tb_X7_status
  refine List.forall_mem_cons.mpr ⟨ok_iload_n hx hb rfl dd_X7_status_0, ?_⟩
  refine List.forall_mem_cons.mpr ⟨ok_iconst hx hb dd_X7_status_1 (by decide), ?_⟩
  refine List.forall_mem_cons.mpr ⟨ok_iconst hx hb dd_X7_status_2 (by decide), ?_⟩
  refine List.forall_mem_cons.mpr ⟨ok_callS (n := 3) C0 (h_X7_within (d + 2) (by omega)) (by decide) wd_321 wd_319 wd_320 wd_100 ⟨by decide +kernel, by decide +kernel, by decide +kernel⟩ dd_X7_status_3, ?_⟩
  refine List.forall_mem_cons.mpr ⟨ok_if_ne hx hb dd_X7_status_6 (by decide), ?_⟩
  refine List.forall_mem_cons.mpr ⟨ok_aload_n hx hb rfl dd_X7_status_9, ?_⟩
  refine List.forall_mem_cons.mpr ⟨ok_bipush hx hb dd_X7_status_10 (by decide), ?_⟩
  refine List.forall_mem_cons.mpr ⟨ok_callV (n := 1) zc_X7 rv_X7_refuse C0 (h_X7_refuse (d + 2) (by omega)) (by decide) wd_328 wd_325 wd_327 wd_3 wd_100 ⟨rfl, by decide +kernel, by decide +kernel, by decide +kernel⟩ dd_X7_status_12, ?_⟩
  refine List.forall_mem_cons.mpr ⟨ok_pop hx hb dd_X7_status_15, ?_⟩
  refine List.forall_mem_cons.mpr ⟨ok_iconst hx hb dd_X7_status_16 (by decide), ?_⟩
  refine List.forall_mem_cons.mpr ⟨ok_iret hx hb hr hlocks hQ dd_X7_status_17, ?_⟩
  refine List.forall_mem_cons.mpr ⟨ok_aload_n hx hb rfl dd_X7_status_18, ?_⟩
  refine List.forall_mem_cons.mpr ⟨ok_getR (j := 5) hx hb hts zi_X7 hown hK zc_X7 (by decide) rfl (fun t fl h => by cases h; rfl) (hts _ wd_276) dd_X7_status_19, ?_⟩
  refine List.forall_mem_cons.mpr ⟨ok_iload_n hx hb rfl dd_X7_status_22, ?_⟩
  refine List.forall_mem_cons.mpr ⟨ok_ald (ty := 0) rfl hx hb hK (Or.inl ⟨rfl, rfl, dd_X7_status_23⟩), ?_⟩
  refine List.forall_mem_cons.mpr ⟨ok_iret hx hb hr hlocks hQ dd_X7_status_24, ?_⟩
  exact fun _ h => absurd h List.not_mem_nil
set_option maxRecDepth 100000 in
theorem vc_X7_status_0 {kd : Nat → Nat} {K : zK} {X : zX} (hX : ∀ (n pc : Nat) (ls : zLS) (st : List zV) (M : zM), zrun (tb_X7_status kd K) [] n X pc ls st M → X pc ls st M) {w : Int32} {M : zM} (hk0 : kd 0 = 1) (h : ∀ v1 : Int32, (v1 = zp ((0 : Int32).toInt ≤ w.toInt ∧ w.toInt ≤ (2 : Int32).toInt)) → ((¬ v1 = 0) → (zin (kd 0) 2 0 w) ∧ K (some (zI (M.1 0 2 (w).toNatClampNeg))) M) ∧ ((v1 = 0) → ∃ s2 : St, (RpX kd M s2) ∧ ∃ k2 : Nat, (k2 < 3 ∧ (-2 : Int32).toInt = -2 - (k2 : Int)) ∧ ∀ v2 : Int32, (v2 = (-2 : Int32)) → ∀ M2 : zM, (RpX kd M2 (sRf s2 k2)) → (fr9 M M2) → K (some (zI ((-1 : Int32)))) M2)) : X 0 [some (zR 0 0), some (zI (w))] [] M := hX 12 0 _ [] M (show ∀ v1 : Int32, (v1 = zp ((0 : Int32).toInt ≤ w.toInt ∧ w.toInt ≤ (2 : Int32).toInt)) → ((¬ v1 = 0) → (kd 0 = 1) ∧ (zin (kd 0) 2 0 w) ∧ K (some (zI (M.1 0 2 (w).toNatClampNeg))) M) ∧ ((v1 = 0) → (kd 0 = 1) ∧ ∃ s2 : St, (RpX kd M s2) ∧ ∃ k2 : Nat, (k2 < 3 ∧ (-2 : Int32).toInt = -2 - (k2 : Int)) ∧ ∀ v2 : Int32, (v2 = (-2 : Int32)) → ∀ M2 : zM, (RpX kd M2 (sRf s2 k2)) → (fr9 M M2) → K (some (zI ((-1 : Int32)))) M2) from fun v1 => have h := h v1; fun q => have h := h q; ⟨fun q => have h := h.1 q; ⟨hk0, ⟨h.1, have h := h.2; h⟩⟩, fun q => have h := h.2 q; ⟨hk0, h.elim (fun s2 h => ⟨s2, ⟨h.1, have h := h.2; h.elim (fun k2 h => ⟨k2, ⟨h.1, have h := h.2; fun v2 => have h := h v2; fun q => have h := h q; fun M2 => have h := h M2; fun q => have h := h q; fun q => have h := h q; h⟩⟩)⟩⟩)⟩⟩)
def sp_X7_count : zSpec := fun kd as M K => match as with
  | [.inr (.inr (.inl (0, 0))), .inl w] => (kd 0 = 1) ∧ (KdX kd) ∧ ∃ s : St, (RpX kd M s) ∧ ∀ v : Int32, (v.toInt = (ev_count s w.toInt).1) → ∀ M' : zM, (RpX kd M' (ev_count s w.toInt).2) → (fr9 M M') → K (some (.inl v)) M'
  | _ => False
theorem rv_X7_count : zrv sp_X7_count 1 1 := by
  intro kd as M K h
  unfold sp_X7_count at h
  split at h
  · exact ⟨_, _, rfl, h.1⟩
  · exact h.elim
theorem dd_X7_count_0 : decode cX7_count 0 = .ok (.iload_n 1, 1) := by decide +kernel
theorem dd_X7_count_1 : decode cX7_count 1 = .ok (.tableswitch 137 0 6 #[43, 54, 65, 86, 107, 118, 129], 43) := by decide +kernel
theorem dd_X7_count_44 : decode cX7_count 44 = .ok (.aload_n 0, 1) := by decide +kernel
theorem dd_X7_count_45 : decode cX7_count 45 = .ok (.getfield 12, 3) := by decide +kernel
theorem dd_X7_count_48 : decode cX7_count 48 = .ok (.getfield 52, 3) := by decide +kernel
theorem dd_X7_count_51 : decode cX7_count 51 = .ok (.invokevirtual 55, 3) := by decide +kernel
theorem dd_X7_count_54 : decode cX7_count 54 = .ok (.ireturn, 1) := by decide +kernel
theorem dd_X7_count_55 : decode cX7_count 55 = .ok (.aload_n 0, 1) := by decide +kernel
theorem dd_X7_count_56 : decode cX7_count 56 = .ok (.getfield 12, 3) := by decide +kernel
theorem dd_X7_count_59 : decode cX7_count 59 = .ok (.getfield 52, 3) := by decide +kernel
theorem dd_X7_count_62 : decode cX7_count 62 = .ok (.getfield 100, 3) := by decide +kernel
theorem dd_X7_count_65 : decode cX7_count 65 = .ok (.ireturn, 1) := by decide +kernel
theorem dd_X7_count_66 : decode cX7_count 66 = .ok (.aload_n 0, 1) := by decide +kernel
theorem dd_X7_count_67 : decode cX7_count 67 = .ok (.getfield 12, 3) := by decide +kernel
theorem dd_X7_count_70 : decode cX7_count 70 = .ok (.getfield 52, 3) := by decide +kernel
theorem dd_X7_count_73 : decode cX7_count 73 = .ok (.aload_n 0, 1) := by decide +kernel
theorem dd_X7_count_74 : decode cX7_count 74 = .ok (.getfield 12, 3) := by decide +kernel
theorem dd_X7_count_77 : decode cX7_count 77 = .ok (.getfield 52, 3) := by decide +kernel
theorem dd_X7_count_80 : decode cX7_count 80 = .ok (.getfield 100, 3) := by decide +kernel
theorem dd_X7_count_83 : decode cX7_count 83 = .ok (.invokevirtual 245, 3) := by decide +kernel
theorem dd_X7_count_86 : decode cX7_count 86 = .ok (.ireturn, 1) := by decide +kernel
theorem dd_X7_count_87 : decode cX7_count 87 = .ok (.aload_n 0, 1) := by decide +kernel
theorem dd_X7_count_88 : decode cX7_count 88 = .ok (.getfield 12, 3) := by decide +kernel
theorem dd_X7_count_91 : decode cX7_count 91 = .ok (.getfield 52, 3) := by decide +kernel
theorem dd_X7_count_94 : decode cX7_count 94 = .ok (.aload_n 0, 1) := by decide +kernel
theorem dd_X7_count_95 : decode cX7_count 95 = .ok (.getfield 12, 3) := by decide +kernel
theorem dd_X7_count_98 : decode cX7_count 98 = .ok (.getfield 52, 3) := by decide +kernel
theorem dd_X7_count_101 : decode cX7_count 101 = .ok (.getfield 100, 3) := by decide +kernel
theorem dd_X7_count_104 : decode cX7_count 104 = .ok (.invokevirtual 236, 3) := by decide +kernel
theorem dd_X7_count_107 : decode cX7_count 107 = .ok (.ireturn, 1) := by decide +kernel
theorem dd_X7_count_108 : decode cX7_count 108 = .ok (.aload_n 0, 1) := by decide +kernel
theorem dd_X7_count_109 : decode cX7_count 109 = .ok (.getfield 12, 3) := by decide +kernel
theorem dd_X7_count_112 : decode cX7_count 112 = .ok (.getfield 188, 3) := by decide +kernel
theorem dd_X7_count_115 : decode cX7_count 115 = .ok (.getfield 192, 3) := by decide +kernel
theorem dd_X7_count_118 : decode cX7_count 118 = .ok (.ireturn, 1) := by decide +kernel
theorem dd_X7_count_119 : decode cX7_count 119 = .ok (.aload_n 0, 1) := by decide +kernel
theorem dd_X7_count_120 : decode cX7_count 120 = .ok (.getfield 12, 3) := by decide +kernel
theorem dd_X7_count_123 : decode cX7_count 123 = .ok (.getfield 83, 3) := by decide +kernel
theorem dd_X7_count_126 : decode cX7_count 126 = .ok (.getfield 248, 3) := by decide +kernel
theorem dd_X7_count_129 : decode cX7_count 129 = .ok (.ireturn, 1) := by decide +kernel
theorem dd_X7_count_130 : decode cX7_count 130 = .ok (.aload_n 0, 1) := by decide +kernel
theorem dd_X7_count_131 : decode cX7_count 131 = .ok (.getfield 37, 3) := by decide +kernel
theorem dd_X7_count_134 : decode cX7_count 134 = .ok (.getfield 113, 3) := by decide +kernel
theorem dd_X7_count_137 : decode cX7_count 137 = .ok (.ireturn, 1) := by decide +kernel
theorem dd_X7_count_138 : decode cX7_count 138 = .ok (.aload_n 0, 1) := by decide +kernel
theorem dd_X7_count_139 : decode cX7_count 139 = .ok (.bipush (-2), 2) := by decide +kernel
theorem dd_X7_count_141 : decode cX7_count 141 = .ok (.invokevirtual 73, 3) := by decide +kernel
theorem dd_X7_count_144 : decode cX7_count 144 = .ok (.ireturn, 1) := by decide +kernel
def tb_X7_count (kd : Nat → Nat) (K : zK) : zTab := [(0, zt_iload 1 1), (1, zt_sw [(0, 44), (1, 55), (2, 66), (3, 87), (4, 108), (5, 119), (6, 130)] 138), (44, zt_aload 0 45), (45, zt_getR kd 1 1 0 48), (48, zt_getR kd 2 1 0 51), (51, zt_call kd sp_X3_layersInAll 1 54), (54, zt_iret K), (55, zt_aload 0 56), (56, zt_getR kd 1 1 0 59), (59, zt_getR kd 2 1 0 62), (62, zt_getI kd 3 6 65), (65, zt_iret K), (66, zt_aload 0 67), (67, zt_getR kd 1 1 0 70), (70, zt_getR kd 2 1 0 73), (73, zt_aload 0 74), (74, zt_getR kd 1 1 0 77), (77, zt_getR kd 2 1 0 80), (80, zt_getI kd 3 6 83), (83, zt_call kd sp_X3_boundIn 2 86), (86, zt_iret K), (87, zt_aload 0 88), (88, zt_getR kd 1 1 0 91), (91, zt_getR kd 2 1 0 94), (94, zt_aload 0 95), (95, zt_getR kd 1 1 0 98), (98, zt_getR kd 2 1 0 101), (101, zt_getI kd 3 6 104), (104, zt_call kd sp_X3_quarrelsIn 2 107), (107, zt_iret K), (108, zt_aload 0 109), (109, zt_getR kd 1 1 0 112), (112, zt_getR kd 2 3 0 115), (115, zt_getI kd 5 4 118), (118, zt_iret K), (119, zt_aload 0 120), (120, zt_getR kd 1 1 0 123), (123, zt_getR kd 2 2 0 126), (126, zt_getI kd 4 1 129), (129, zt_iret K), (130, zt_aload 0 131), (131, zt_getR kd 1 8 0 134), (134, zt_getI kd 7 1 137), (137, zt_iret K), (138, zt_aload 0 139), (139, zt_const (zI (-2)) 141), (141, zt_call kd sp_X7_refuse 2 144), (144, zt_iret K)]
set_option maxRecDepth 20000 in
theorem tk_X7_count (d : Nat) (h_X3_layersInAll : zMS 1 yX3_layersInAll cX3_layersInAll 3 (some .int) sp_X3_layersInAll) (h_X3_boundIn : zMS 5 yX3_boundIn cX3_boundIn 5 (some .int) sp_X3_boundIn) (h_X3_quarrelsIn : zMS 6 yX3_quarrelsIn cX3_quarrelsIn 4 (some .int) sp_X3_quarrelsIn) (h_X7_refuse : zMS 2 yX7_refuse cX7_refuse 3 (some .int) sp_X7_refuse) : zTrue RX7 cX7_count 2 (some .int) (d + 7) (fun kd K => tb_X7_count kd K) := by
  intro p l e R s m args below meth c D cy A ad bl Qm K C0 hr hlocks hQ
  obtain ⟨hx, hb, hml, hown, hts, hK, hD, hA0, hN, hE, ⟨hR1, hR2⟩, hc1, hc2⟩ := id C0
  unfold tb_X7_count
  refine List.forall_mem_cons.mpr ⟨ok_iload_n hx hb rfl dd_X7_count_0, ?_⟩
  refine List.forall_mem_cons.mpr ⟨ok_tsw hx hb dd_X7_count_1 (by decide) (by decide) (fun k hk => by rcases (show k = 0 ∨ k = 1 ∨ k = 2 ∨ k = 3 ∨ k = 4 ∨ k = 5 ∨ k = 6 by simp at hk; omega) with rfl | rfl | rfl | rfl | rfl | rfl | rfl <;> exact ⟨_, _, rfl, by decide, rfl, by decide⟩), ?_⟩
  refine List.forall_mem_cons.mpr ⟨ok_aload_n hx hb rfl dd_X7_count_44, ?_⟩
  refine List.forall_mem_cons.mpr ⟨ok_getR (j := 0) hx hb hts zi_X7 hown hK zc_X7 (by decide) rfl (fun t fl h => by cases h; rfl) (hts _ wd_271) dd_X7_count_45, ?_⟩
  refine List.forall_mem_cons.mpr ⟨ok_getRN (j := 0) hx hb hts zi_X2 hown hK zc_X2 (by decide) rfl (fun t fl h => by cases h; rfl) (va_Nw.use rfl (hN _ nd_201)) dd_X7_count_48, ?_⟩
  refine List.forall_mem_cons.mpr ⟨ok_callVN (n := 0) zc_X3 rv_X3_layersInAll C0 (h_X3_layersInAll (d + 6) (by omega)) (by decide) wd_303 nd_300 wd_302 wd_0 wd_102 ⟨by decide +kernel, by decide +kernel, by decide +kernel⟩ dd_X7_count_51, ?_⟩
  refine List.forall_mem_cons.mpr ⟨ok_iret hx hb hr hlocks hQ dd_X7_count_54, ?_⟩
  refine List.forall_mem_cons.mpr ⟨ok_aload_n hx hb rfl dd_X7_count_55, ?_⟩
  refine List.forall_mem_cons.mpr ⟨ok_getR (j := 0) hx hb hts zi_X7 hown hK zc_X7 (by decide) rfl (fun t fl h => by cases h; rfl) (hts _ wd_271) dd_X7_count_56, ?_⟩
  refine List.forall_mem_cons.mpr ⟨ok_getRN (j := 0) hx hb hts zi_X2 hown hK zc_X2 (by decide) rfl (fun t fl h => by cases h; rfl) (va_Nw.use rfl (hN _ nd_201)) dd_X7_count_59, ?_⟩
  refine List.forall_mem_cons.mpr ⟨ok_getIN (j := 6) hx hb hts zi_X3 hown hK zc_X3 (by decide) rfl (fun t fl h => by cases h; rfl) (va_Nw.use rfl (hN _ nd_144)) dd_X7_count_62, ?_⟩
  refine List.forall_mem_cons.mpr ⟨ok_iret hx hb hr hlocks hQ dd_X7_count_65, ?_⟩
  refine List.forall_mem_cons.mpr ⟨ok_aload_n hx hb rfl dd_X7_count_66, ?_⟩
  refine List.forall_mem_cons.mpr ⟨ok_getR (j := 0) hx hb hts zi_X7 hown hK zc_X7 (by decide) rfl (fun t fl h => by cases h; rfl) (hts _ wd_271) dd_X7_count_67, ?_⟩
  refine List.forall_mem_cons.mpr ⟨ok_getRN (j := 0) hx hb hts zi_X2 hown hK zc_X2 (by decide) rfl (fun t fl h => by cases h; rfl) (va_Nw.use rfl (hN _ nd_201)) dd_X7_count_70, ?_⟩
  refine List.forall_mem_cons.mpr ⟨ok_aload_n hx hb rfl dd_X7_count_73, ?_⟩
  refine List.forall_mem_cons.mpr ⟨ok_getR (j := 0) hx hb hts zi_X7 hown hK zc_X7 (by decide) rfl (fun t fl h => by cases h; rfl) (hts _ wd_271) dd_X7_count_74, ?_⟩
  refine List.forall_mem_cons.mpr ⟨ok_getRN (j := 0) hx hb hts zi_X2 hown hK zc_X2 (by decide) rfl (fun t fl h => by cases h; rfl) (va_Nw.use rfl (hN _ nd_201)) dd_X7_count_77, ?_⟩
  refine List.forall_mem_cons.mpr ⟨ok_getIN (j := 6) hx hb hts zi_X3 hown hK zc_X3 (by decide) rfl (fun t fl h => by cases h; rfl) (va_Nw.use rfl (hN _ nd_144)) dd_X7_count_80, ?_⟩
  refine List.forall_mem_cons.mpr ⟨ok_callVN (n := 1) zc_X3 rv_X3_boundIn C0 (h_X3_boundIn (d + 6) (by omega)) (by decide) wd_809 nd_806 wd_808 wd_59 wd_102 ⟨by decide +kernel, by decide +kernel, by decide +kernel⟩ dd_X7_count_83, ?_⟩
  refine List.forall_mem_cons.mpr ⟨ok_iret hx hb hr hlocks hQ dd_X7_count_86, ?_⟩
  refine List.forall_mem_cons.mpr ⟨ok_aload_n hx hb rfl dd_X7_count_87, ?_⟩
  refine List.forall_mem_cons.mpr ⟨ok_getR (j := 0) hx hb hts zi_X7 hown hK zc_X7 (by decide) rfl (fun t fl h => by cases h; rfl) (hts _ wd_271) dd_X7_count_88, ?_⟩
  refine List.forall_mem_cons.mpr ⟨ok_getRN (j := 0) hx hb hts zi_X2 hown hK zc_X2 (by decide) rfl (fun t fl h => by cases h; rfl) (va_Nw.use rfl (hN _ nd_201)) dd_X7_count_91, ?_⟩
  refine List.forall_mem_cons.mpr ⟨ok_aload_n hx hb rfl dd_X7_count_94, ?_⟩
  refine List.forall_mem_cons.mpr ⟨ok_getR (j := 0) hx hb hts zi_X7 hown hK zc_X7 (by decide) rfl (fun t fl h => by cases h; rfl) (hts _ wd_271) dd_X7_count_95, ?_⟩
  refine List.forall_mem_cons.mpr ⟨ok_getRN (j := 0) hx hb hts zi_X2 hown hK zc_X2 (by decide) rfl (fun t fl h => by cases h; rfl) (va_Nw.use rfl (hN _ nd_201)) dd_X7_count_98, ?_⟩
  refine List.forall_mem_cons.mpr ⟨ok_getIN (j := 6) hx hb hts zi_X3 hown hK zc_X3 (by decide) rfl (fun t fl h => by cases h; rfl) (va_Nw.use rfl (hN _ nd_144)) dd_X7_count_101, ?_⟩
  refine List.forall_mem_cons.mpr ⟨ok_callVN (n := 1) zc_X3 rv_X3_quarrelsIn C0 (h_X3_quarrelsIn (d + 6) (by omega)) (by decide) wd_768 nd_765 wd_767 wd_55 wd_102 ⟨by decide +kernel, by decide +kernel, by decide +kernel⟩ dd_X7_count_104, ?_⟩
  refine List.forall_mem_cons.mpr ⟨ok_iret hx hb hr hlocks hQ dd_X7_count_107, ?_⟩
  refine List.forall_mem_cons.mpr ⟨ok_aload_n hx hb rfl dd_X7_count_108, ?_⟩
  refine List.forall_mem_cons.mpr ⟨ok_getR (j := 0) hx hb hts zi_X7 hown hK zc_X7 (by decide) rfl (fun t fl h => by cases h; rfl) (hts _ wd_271) dd_X7_count_109, ?_⟩
  refine List.forall_mem_cons.mpr ⟨ok_getRN (j := 2) hx hb hts zi_X2 hown hK zc_X2 (by decide) rfl (fun t fl h => by cases h; rfl) (va_Nw.use rfl (hN _ nd_205)) dd_X7_count_112, ?_⟩
  refine List.forall_mem_cons.mpr ⟨ok_getIN (j := 4) hx hb hts zi_X0 hown hK zc_X0 (by decide) rfl (fun t fl h => by cases h; rfl) (va_Nw.use rfl (hN _ nd_188)) dd_X7_count_115, ?_⟩
  refine List.forall_mem_cons.mpr ⟨ok_iret hx hb hr hlocks hQ dd_X7_count_118, ?_⟩
  refine List.forall_mem_cons.mpr ⟨ok_aload_n hx hb rfl dd_X7_count_119, ?_⟩
  refine List.forall_mem_cons.mpr ⟨ok_getR (j := 0) hx hb hts zi_X7 hown hK zc_X7 (by decide) rfl (fun t fl h => by cases h; rfl) (hts _ wd_271) dd_X7_count_120, ?_⟩
  refine List.forall_mem_cons.mpr ⟨ok_getRN (j := 1) hx hb hts zi_X2 hown hK zc_X2 (by decide) rfl (fun t fl h => by cases h; rfl) (va_Nw.use rfl (hN _ nd_203)) dd_X7_count_123, ?_⟩
  refine List.forall_mem_cons.mpr ⟨ok_getIN (j := 1) hx hb hts zi_X4 hown hK zc_X4 (by decide) rfl (fun t fl h => by cases h; rfl) (va_Nw.use rfl (hN _ nd_170)) dd_X7_count_126, ?_⟩
  refine List.forall_mem_cons.mpr ⟨ok_iret hx hb hr hlocks hQ dd_X7_count_129, ?_⟩
  refine List.forall_mem_cons.mpr ⟨ok_aload_n hx hb rfl dd_X7_count_130, ?_⟩
  refine List.forall_mem_cons.mpr ⟨ok_getR (j := 4) hx hb hts zi_X7 hown hK zc_X7 (by decide) rfl (fun t fl h => by cases h; rfl) (hts _ wd_275) dd_X7_count_131, ?_⟩
  refine List.forall_mem_cons.mpr ⟨ok_getIN (j := 1) hx hb hts zi_X5 hown hK zc_X5 (by decide) rfl (fun t fl h => by cases h; rfl) (va_Nw.use rfl (hN _ nd_249)) dd_X7_count_134, ?_⟩
  refine List.forall_mem_cons.mpr ⟨ok_iret hx hb hr hlocks hQ dd_X7_count_137, ?_⟩
  refine List.forall_mem_cons.mpr ⟨ok_aload_n hx hb rfl dd_X7_count_138, ?_⟩
  refine List.forall_mem_cons.mpr ⟨ok_bipush hx hb dd_X7_count_139 (by decide), ?_⟩
  refine List.forall_mem_cons.mpr ⟨ok_callV (n := 1) zc_X7 rv_X7_refuse C0 (h_X7_refuse (d + 6) (by omega)) (by decide) wd_328 wd_325 wd_327 wd_3 wd_100 ⟨rfl, by decide +kernel, by decide +kernel, by decide +kernel⟩ dd_X7_count_141, ?_⟩
  refine List.forall_mem_cons.mpr ⟨ok_iret hx hb hr hlocks hQ dd_X7_count_144, ?_⟩
  exact fun _ h => absurd h List.not_mem_nil
set_option maxRecDepth 100000 in
theorem vc_X7_count_0 {kd : Nat → Nat} {K : zK} {X : zX} (hX : ∀ (n pc : Nat) (ls : zLS) (st : List zV) (M : zM), zrun (tb_X7_count kd K) [] n X pc ls st M → X pc ls st M) {w : Int32} {M : zM} (hk0 : kd 0 = 1) (hk1 : kd 8 = 7) (hk2 : kd 3 = 4) (hk3 : kd 1 = 2) (hk4 : kd 4 = 5) (hk5 : kd 2 = 3) (h : ((w = 0) → ∃ a4 : Sk, (RpS (M.1 2) a4) ∧ ∀ v4 : Int32, (v4.toInt = sk_all a4) → K (some (zI (v4))) M) ∧ ((¬ w = 0) → ((w = 1) → K (some (zI (M.1 2 0 6))) M) ∧ ((¬ w = 1) → ((w = 2) → ∃ a3 : Sk, (RpS (M.1 2) a3) ∧ (0 ≤ (M.1 2 0 6).toInt ∧ (M.1 2 0 6).toInt < 1000000) ∧ ∀ v3 : Int32, (v3.toInt = sk_bi a3 (M.1 2 0 6).toInt) → K (some (zI (v3))) M) ∧ ((¬ w = 2) → ((w = 3) → ∃ a2 : Sk, (RpS (M.1 2) a2) ∧ (0 ≤ (M.1 2 0 6).toInt ∧ (M.1 2 0 6).toInt < 1000000) ∧ ∀ v2 : Int32, (v2.toInt = sk_qu a2 (M.1 2 0 6).toInt) → K (some (zI (v2))) M) ∧ ((¬ w = 3) → ((w = 4) → K (some (zI (M.1 4 0 4))) M) ∧ ((¬ w = 4) → ((w = 5) → K (some (zI (M.1 3 0 1))) M) ∧ ((¬ w = 5) → ((w = 6) → K (some (zI (M.1 8 0 1))) M) ∧ ((¬ w = 6) → ∃ s1 : St, (RpX kd M s1) ∧ ∃ k1 : Nat, (k1 < 3 ∧ (-2 : Int32).toInt = -2 - (k1 : Int)) ∧ ∀ v1 : Int32, (v1 = (-2 : Int32)) → ∀ M1 : zM, (RpX kd M1 (sRf s1 k1)) → (fr9 M M1) → K (some (zI (v1))) M1)))))))) : X 0 [some (zR 0 0), some (zI (w))] [] M := hX 12 0 _ [] M (show ((w = 0) → (kd 0 = 1) ∧ (kd 1 = 2) ∧ (kd 2 = 3) ∧ ∃ a4 : Sk, (RpS (M.1 2) a4) ∧ ∀ v4 : Int32, (v4.toInt = sk_all a4) → K (some (zI (v4))) M) ∧ ((¬ w = 0) → ((w = 1) → (kd 0 = 1) ∧ (kd 1 = 2) ∧ (kd 2 = 3) ∧ K (some (zI (M.1 2 0 6))) M) ∧ ((¬ w = 1) → ((w = 2) → (kd 0 = 1) ∧ (kd 1 = 2) ∧ (kd 0 = 1) ∧ (kd 1 = 2) ∧ (kd 2 = 3) ∧ (kd 2 = 3) ∧ ∃ a3 : Sk, (RpS (M.1 2) a3) ∧ (0 ≤ (M.1 2 0 6).toInt ∧ (M.1 2 0 6).toInt < 1000000) ∧ ∀ v3 : Int32, (v3.toInt = sk_bi a3 (M.1 2 0 6).toInt) → K (some (zI (v3))) M) ∧ ((¬ w = 2) → ((w = 3) → (kd 0 = 1) ∧ (kd 1 = 2) ∧ (kd 0 = 1) ∧ (kd 1 = 2) ∧ (kd 2 = 3) ∧ (kd 2 = 3) ∧ ∃ a2 : Sk, (RpS (M.1 2) a2) ∧ (0 ≤ (M.1 2 0 6).toInt ∧ (M.1 2 0 6).toInt < 1000000) ∧ ∀ v2 : Int32, (v2.toInt = sk_qu a2 (M.1 2 0 6).toInt) → K (some (zI (v2))) M) ∧ ((¬ w = 3) → ((w = 4) → (kd 0 = 1) ∧ (kd 1 = 2) ∧ (kd 4 = 5) ∧ K (some (zI (M.1 4 0 4))) M) ∧ ((¬ w = 4) → ((w = 5) → (kd 0 = 1) ∧ (kd 1 = 2) ∧ (kd 3 = 4) ∧ K (some (zI (M.1 3 0 1))) M) ∧ ((¬ w = 5) → ((w = 6) → (kd 0 = 1) ∧ (kd 8 = 7) ∧ K (some (zI (M.1 8 0 1))) M) ∧ ((¬ w = 6) → (kd 0 = 1) ∧ ∃ s1 : St, (RpX kd M s1) ∧ ∃ k1 : Nat, (k1 < 3 ∧ (-2 : Int32).toInt = -2 - (k1 : Int)) ∧ ∀ v1 : Int32, (v1 = (-2 : Int32)) → ∀ M1 : zM, (RpX kd M1 (sRf s1 k1)) → (fr9 M M1) → K (some (zI (v1))) M1))))))) from ⟨fun q => have h := h.1 q; ⟨hk0, ⟨hk3, ⟨hk5, h.elim (fun a4 h => ⟨a4, ⟨h.1, have h := h.2; fun v4 => have h := h v4; fun q => have h := h q; h⟩⟩)⟩⟩⟩, fun q => have h := h.2 q; ⟨fun q => have h := h.1 q; ⟨hk0, ⟨hk3, ⟨hk5, h⟩⟩⟩, fun q => have h := h.2 q; ⟨fun q => have h := h.1 q; ⟨hk0, ⟨hk3, ⟨hk0, ⟨hk3, ⟨hk5, ⟨hk5, h.elim (fun a3 h => ⟨a3, ⟨h.1, have h := h.2; ⟨h.1, have h := h.2; fun v3 => have h := h v3; fun q => have h := h q; h⟩⟩⟩)⟩⟩⟩⟩⟩⟩, fun q => have h := h.2 q; ⟨fun q => have h := h.1 q; ⟨hk0, ⟨hk3, ⟨hk0, ⟨hk3, ⟨hk5, ⟨hk5, h.elim (fun a2 h => ⟨a2, ⟨h.1, have h := h.2; ⟨h.1, have h := h.2; fun v2 => have h := h v2; fun q => have h := h q; h⟩⟩⟩)⟩⟩⟩⟩⟩⟩, fun q => have h := h.2 q; ⟨fun q => have h := h.1 q; ⟨hk0, ⟨hk3, ⟨hk4, h⟩⟩⟩, fun q => have h := h.2 q; ⟨fun q => have h := h.1 q; ⟨hk0, ⟨hk3, ⟨hk2, h⟩⟩⟩, fun q => have h := h.2 q; ⟨fun q => have h := h.1 q; ⟨hk0, ⟨hk1, h⟩⟩, fun q => have h := h.2 q; ⟨hk0, h.elim (fun s1 h => ⟨s1, ⟨h.1, have h := h.2; h.elim (fun k1 h => ⟨k1, ⟨h.1, have h := h.2; fun v1 => have h := h v1; fun q => have h := h q; fun M1 => have h := h M1; fun q => have h := h q; fun q => have h := h q; h⟩⟩)⟩⟩)⟩⟩⟩⟩⟩⟩⟩⟩)
