
/-! answers that are told by what they are -/
def er_ends (s : St) (c i x : Int) : Prop := if (sk_at s.1.1 c i).isSome then sk_isE s.1.1 c i x else x = -2
def es_ends (s : St) (c i : Int) : St := if (sk_at s.1.1 c i).isSome then s else sRf s 0
def er_quarrel (s : St) (g x : Int) : Prop := if isT g then sk_isQ s.1.1 g x else x = -2
def es_quarrel (s : St) (g : Int) : St := if isT g then s else sRf s 0
def er_look (s : St) (c i x : Int) : Prop := match sk_at s.1.1 c i with
  | some l => if seFit s.1.2.2 l (sk_at s.1.1 c (i + 1)) c i = 0 then x = -1 else isArg (sk_lk s.1.1 (seFit s.1.2.2 l (sk_at s.1.1 c (i + 1)) c i) c i) s.1.1.2 (hi99 s.1.1.2) x
  | none => x = -2
def sRow (a : Sk) (g y v : Int) (n : Nat) (x : Int) : Prop := isFst (fun w => sk_may a w && rowOk g y v n (sk_do a w g (le12 v))) 20 x
def er_strokes (s : St) (g v y w x : Int) : Prop := if isT g ∧ inn v 1 2 ∧ inn y 0 99 ∧ inn w 0 1 then (if sk_law s.1.1 g (s.1.1.2 + y) = v then x = (if w = 0 then 0 else -1) else ∃ f1, sRow s.1.1 g (s.1.1.2 + y) v 0 f1 ∧ ((f1 ≠ -1 ∧ x = (if w = 0 then 1 else f1)) ∨ (f1 = -1 ∧ ∃ f2, sRow s.1.1 g (s.1.1.2 + y) v 1 f2 ∧ x = (if f2 = -1 then -1 else if w = 0 then 2 else f2)))) else x = -2
def es_strokes (s : St) (g v y w : Int) : St := if isT g ∧ inn v 1 2 ∧ inn y 0 99 ∧ inn w 0 1 then s else sRf s 0
def ev_parties (s : St) (g y n w : Int) : Int × St := if isT g ∧ inn y 0 99 ∧ inn n 1 3 ∧ inn w 0 1 then ((if w = 0 then wv g (s.1.1.2 + y) n.toNat 1 s.1.1 else wc g (s.1.1.2 + y) (n.toNat - 1) 1 s.1.1), s) else (-2, sRf s 0)
def ev_part (s : St) (w : Int) : Int × St := if inn w 0 1 then ((if w = 0 then s.2.2.2.1.1 else s.2.2.2.1.2), s) else (-2, sRf s 0)
def cts (s : St) : Nat → Int64
  | 0 => 1163
  | n + 1 => mx (cts s n) (ev_count s n).1
def ev_digest (s : St) : Int64 := mx (mx (s.1.2.2.foldl mxS (sk_mix s.1.1 (cts s 7))) s.2.2.2.1.1) s.2.2.2.1.2
def pwr (c n : Int) : Int := c ^ n.toNat
def sdw (c n : Int) (b : Bool) : Int := if b then pwr 4 n - pwr c n else pwr c n
def frc (o u : Int) : Int × Int := (o / (Int.gcd o u : Int), u / (Int.gcd o u : Int))
def ev_thumbs (s : St) (g y v c : Int) : Int × St := if isT g ∧ isY y ∧ inn v 0 3 ∧ inn c 0 4 then (1, (s.1, s.2.1, s.2.2.1, frc (sdw c (sk_N s.1.1 g 1 y) (decide (v % 2 = 1)) * sdw c (sk_N s.1.1 g 0 y) (decide (v / 2 % 2 = 1))) (pwr 4 (sk_N s.1.1 g 1 y + sk_N s.1.1 g 0 y)), s.2.2.2.2)) else (-2, sRf s 0)
def cny : Nat → Int → Sk → Sk
  | 0, _, a => a
  | n + 1, x, a => cny n ((x * 1103515245 + 12345) % 2147483648) (sk_yr (sk_ch a ((x * 1103515245 + 12345) % 2147483648 / 65536)) ((x * 1103515245 + 12345) % 2147483648 / 1048576 % 50))
def ev_centuries (s : St) (x n : Int) : Int × St := if inn x 0 999999 ∧ inn n 0 30 then (sk_qu (cny n.toNat x s.1.1) (cny n.toNat x s.1.1).2, s) else (-2, sRf s 0)
def sp_X7_ends : zSpec := fun kd as M K => match as with
  | [.inr (.inr (.inl (0, 0))), .inl c, .inl i] => (kd 0 = 1) ∧ (KdX kd) ∧ ∃ s : St, (RpX kd M s) ∧ ∀ v : Int32, (er_ends s c.toInt i.toInt v.toInt) → ∀ M' : zM, (RpX kd M' (es_ends s c.toInt i.toInt)) → (fr9 M M') → K (some (.inl v)) M'
  | _ => False
theorem rv_X7_ends : zrv sp_X7_ends 1 2 := by
  intro kd as M K h
  unfold sp_X7_ends at h
  split at h
  · exact ⟨_, _, rfl, h.1⟩
  · exact h.elim
theorem dd_X7_ends_0 : decode cX7_ends 0 = .ok (.aload_n 0, 1) := by decide +kernel
theorem dd_X7_ends_1 : decode cX7_ends 1 = .ok (.getfield 12, 3) := by decide +kernel
theorem dd_X7_ends_4 : decode cX7_ends 4 = .ok (.getfield 52, 3) := by decide +kernel
theorem dd_X7_ends_7 : decode cX7_ends 7 = .ok (.iload_n 1, 1) := by decide +kernel
theorem dd_X7_ends_8 : decode cX7_ends 8 = .ok (.iload_n 2, 1) := by decide +kernel
theorem dd_X7_ends_9 : decode cX7_ends 9 = .ok (.invokevirtual 144, 3) := by decide +kernel
theorem dd_X7_ends_12 : decode cX7_ends 12 = .ok (.ifCond .eq 18, 3) := by decide +kernel
theorem dd_X7_ends_15 : decode cX7_ends 15 = .ok (.aload_n 0, 1) := by decide +kernel
theorem dd_X7_ends_16 : decode cX7_ends 16 = .ok (.getfield 12, 3) := by decide +kernel
theorem dd_X7_ends_19 : decode cX7_ends 19 = .ok (.getfield 52, 3) := by decide +kernel
theorem dd_X7_ends_22 : decode cX7_ends 22 = .ok (.iload_n 1, 1) := by decide +kernel
theorem dd_X7_ends_23 : decode cX7_ends 23 = .ok (.iload_n 2, 1) := by decide +kernel
theorem dd_X7_ends_24 : decode cX7_ends 24 = .ok (.invokevirtual 157, 3) := by decide +kernel
theorem dd_X7_ends_27 : decode cX7_ends 27 = .ok (.goto 9, 3) := by decide +kernel
theorem dd_X7_ends_30 : decode cX7_ends 30 = .ok (.aload_n 0, 1) := by decide +kernel
theorem dd_X7_ends_31 : decode cX7_ends 31 = .ok (.bipush (-2), 2) := by decide +kernel
theorem dd_X7_ends_33 : decode cX7_ends 33 = .ok (.invokevirtual 73, 3) := by decide +kernel
theorem dd_X7_ends_36 : decode cX7_ends 36 = .ok (.ireturn, 1) := by decide +kernel
def tb_X7_ends (kd : Nat → Nat) (K : zK) : zTab := [(0, zt_aload 0 1), (1, zt_getR kd 1 1 0 4), (4, zt_getR kd 2 1 0 7), (7, zt_iload 1 8), (8, zt_iload 2 9), (9, zt_call kd sp_X3_has 3 12), (12, zt_if (fun x => x = 0) (fun x => ¬ x = 0) 30 15), (15, zt_aload 0 16), (16, zt_getR kd 1 1 0 19), (19, zt_getR kd 2 1 0 22), (22, zt_iload 1 23), (23, zt_iload 2 24), (24, zt_call kd sp_X3_lastEnd 3 27), (27, zt_goto 36), (30, zt_aload 0 31), (31, zt_const (zI (-2)) 33), (33, zt_call kd sp_X7_refuse 2 36), (36, zt_iret K)]
set_option maxRecDepth 20000 in
theorem tk_X7_ends (d : Nat) (h_X3_has : zMS 2 yX3_has cX3_has 3 (some .boolean) sp_X3_has) (h_X3_lastEnd : zMS 5 yX3_lastEnd cX3_lastEnd 5 (some .int) sp_X3_lastEnd) (h_X7_refuse : zMS 2 yX7_refuse cX7_refuse 3 (some .int) sp_X7_refuse) : zTrue RX7 cX7_ends 3 (some .int) (d + 6) (fun kd K => tb_X7_ends kd K) := by
  intro p l e R s m args below meth c D cy A ad bl Qm K C0 hr hlocks hQ
  obtain ⟨hx, hb, hml, hown, hts, hK, hD, hA0, hN, hE, ⟨hR1, hR2⟩, hc1, hc2⟩ := id C0
  unfold tb_X7_ends
  refine List.forall_mem_cons.mpr ⟨ok_aload_n hx hb rfl dd_X7_ends_0, ?_⟩
  refine List.forall_mem_cons.mpr ⟨ok_getR (j := 0) hx hb hts zi_X7 hown hK zc_X7 (by decide) rfl (fun t fl h => by cases h; rfl) (hts _ wd_271) dd_X7_ends_1, ?_⟩
  refine List.forall_mem_cons.mpr ⟨ok_getRN (j := 0) hx hb hts zi_X2 hown hK zc_X2 (by decide) rfl (fun t fl h => by cases h; rfl) (va_Nw.use rfl (hN _ nd_201)) dd_X7_ends_4, ?_⟩
  refine List.forall_mem_cons.mpr ⟨ok_iload_n hx hb rfl dd_X7_ends_7, ?_⟩
  refine List.forall_mem_cons.mpr ⟨ok_iload_n hx hb rfl dd_X7_ends_8, ?_⟩
  refine List.forall_mem_cons.mpr ⟨ok_callVN (n := 2) zc_X3 rv_X3_has C0 (h_X3_has (d + 5) (by omega)) (by decide) wd_547 nd_544 wd_546 wd_24 wd_102 ⟨by decide +kernel, by decide +kernel, by decide +kernel⟩ dd_X7_ends_9, ?_⟩
  refine List.forall_mem_cons.mpr ⟨ok_if_eq hx hb dd_X7_ends_12 (by decide), ?_⟩
  refine List.forall_mem_cons.mpr ⟨ok_aload_n hx hb rfl dd_X7_ends_15, ?_⟩
  refine List.forall_mem_cons.mpr ⟨ok_getR (j := 0) hx hb hts zi_X7 hown hK zc_X7 (by decide) rfl (fun t fl h => by cases h; rfl) (hts _ wd_271) dd_X7_ends_16, ?_⟩
  refine List.forall_mem_cons.mpr ⟨ok_getRN (j := 0) hx hb hts zi_X2 hown hK zc_X2 (by decide) rfl (fun t fl h => by cases h; rfl) (va_Nw.use rfl (hN _ nd_201)) dd_X7_ends_19, ?_⟩
  refine List.forall_mem_cons.mpr ⟨ok_iload_n hx hb rfl dd_X7_ends_22, ?_⟩
  refine List.forall_mem_cons.mpr ⟨ok_iload_n hx hb rfl dd_X7_ends_23, ?_⟩
  refine List.forall_mem_cons.mpr ⟨ok_callVN (n := 2) zc_X3 rv_X3_lastEnd C0 (h_X3_lastEnd (d + 5) (by omega)) (by decide) wd_590 nd_587 wd_589 wd_31 wd_102 ⟨by decide +kernel, by decide +kernel, by decide +kernel⟩ dd_X7_ends_24, ?_⟩
  refine List.forall_mem_cons.mpr ⟨ok_goto hx hb dd_X7_ends_27 (by decide), ?_⟩
  refine List.forall_mem_cons.mpr ⟨ok_aload_n hx hb rfl dd_X7_ends_30, ?_⟩
  refine List.forall_mem_cons.mpr ⟨ok_bipush hx hb dd_X7_ends_31 (by decide), ?_⟩
  refine List.forall_mem_cons.mpr ⟨ok_callV (n := 1) zc_X7 rv_X7_refuse C0 (h_X7_refuse (d + 5) (by omega)) (by decide) wd_328 wd_325 wd_327 wd_3 wd_100 ⟨rfl, by decide +kernel, by decide +kernel, by decide +kernel⟩ dd_X7_ends_33, ?_⟩
  refine List.forall_mem_cons.mpr ⟨ok_iret hx hb hr hlocks hQ dd_X7_ends_36, ?_⟩
  exact fun _ h => absurd h List.not_mem_nil
set_option maxRecDepth 100000 in
theorem vc_X7_ends_0 {kd : Nat → Nat} {K : zK} {X : zX} (hX : ∀ (n pc : Nat) (ls : zLS) (st : List zV) (M : zM), zrun (tb_X7_ends kd K) [] n X pc ls st M → X pc ls st M) {c : Int32} {i : Int32} {M : zM} (hk0 : kd 0 = 1) (hk1 : kd 2 = 3) (hk2 : kd 1 = 2) (h : ∃ a1 : Sk, (RpS (M.1 2) a1) ∧ ∀ v1 : Int32, (v1 = zp ((sk_at a1 c.toInt i.toInt).isSome = true)) → ((v1 = 0) → ∃ s2 : St, (RpX kd M s2) ∧ ∃ k2 : Nat, (k2 < 3 ∧ (-2 : Int32).toInt = -2 - (k2 : Int)) ∧ ∀ v2 : Int32, (v2 = (-2 : Int32)) → ∀ M2 : zM, (RpX kd M2 (sRf s2 k2)) → (fr9 M M2) → K (some (zI (v2))) M2) ∧ ((¬ v1 = 0) → ∃ a3 : Sk, (RpS (M.1 2) a3) ∧ ∃ l3 : Ly, (sk_at a3 c.toInt i.toInt = some l3) ∧ ∀ v3 : Int32, (sk_isE a3 c.toInt i.toInt v3.toInt) → K (some (zI (v3))) M)) : X 0 [some (zR 0 0), some (zI (c)), some (zI (i))] [] M := hX 16 0 _ [] M (show (kd 0 = 1) ∧ (kd 1 = 2) ∧ (kd 2 = 3) ∧ ∃ a1 : Sk, (RpS (M.1 2) a1) ∧ ∀ v1 : Int32, (v1 = zp ((sk_at a1 c.toInt i.toInt).isSome = true)) → ((v1 = 0) → (kd 0 = 1) ∧ ∃ s2 : St, (RpX kd M s2) ∧ ∃ k2 : Nat, (k2 < 3 ∧ (-2 : Int32).toInt = -2 - (k2 : Int)) ∧ ∀ v2 : Int32, (v2 = (-2 : Int32)) → ∀ M2 : zM, (RpX kd M2 (sRf s2 k2)) → (fr9 M M2) → K (some (zI (v2))) M2) ∧ ((¬ v1 = 0) → (kd 0 = 1) ∧ (kd 1 = 2) ∧ (kd 2 = 3) ∧ ∃ a3 : Sk, (RpS (M.1 2) a3) ∧ ∃ l3 : Ly, (sk_at a3 c.toInt i.toInt = some l3) ∧ ∀ v3 : Int32, (sk_isE a3 c.toInt i.toInt v3.toInt) → K (some (zI (v3))) M) from ⟨hk0, ⟨hk2, ⟨hk1, h.elim (fun a1 h => ⟨a1, ⟨h.1, have h := h.2; fun v1 => have h := h v1; fun q => have h := h q; ⟨fun q => have h := h.1 q; ⟨hk0, h.elim (fun s2 h => ⟨s2, ⟨h.1, have h := h.2; h.elim (fun k2 h => ⟨k2, ⟨h.1, have h := h.2; fun v2 => have h := h v2; fun q => have h := h q; fun M2 => have h := h M2; fun q => have h := h q; fun q => have h := h q; h⟩⟩)⟩⟩)⟩, fun q => have h := h.2 q; ⟨hk0, ⟨hk2, ⟨hk1, h.elim (fun a3 h => ⟨a3, ⟨h.1, have h := h.2; h.elim (fun l3 h => ⟨l3, ⟨h.1, have h := h.2; fun v3 => have h := h v3; fun q => have h := h q; h⟩⟩)⟩⟩)⟩⟩⟩⟩⟩⟩)⟩⟩⟩)
def sp_X7_quarrel : zSpec := fun kd as M K => match as with
  | [.inr (.inr (.inl (0, 0))), .inl g] => (kd 0 = 1) ∧ (KdX kd) ∧ ∃ s : St, (RpX kd M s) ∧ ∀ v : Int32, (er_quarrel s g.toInt v.toInt) → ∀ M' : zM, (RpX kd M' (es_quarrel s g.toInt)) → (fr9 M M') → K (some (.inl v)) M'
  | _ => False
theorem rv_X7_quarrel : zrv sp_X7_quarrel 1 1 := by
  intro kd as M K h
  unfold sp_X7_quarrel at h
  split at h
  · exact ⟨_, _, rfl, h.1⟩
  · exact h.elim
theorem dd_X7_quarrel_0 : decode cX7_quarrel 0 = .ok (.iload_n 1, 1) := by decide +kernel
theorem dd_X7_quarrel_1 : decode cX7_quarrel 1 = .ok (.invokestatic 70, 3) := by decide +kernel
theorem dd_X7_quarrel_4 : decode cX7_quarrel 4 = .ok (.ifCond .eq 17, 3) := by decide +kernel
theorem dd_X7_quarrel_7 : decode cX7_quarrel 7 = .ok (.aload_n 0, 1) := by decide +kernel
theorem dd_X7_quarrel_8 : decode cX7_quarrel 8 = .ok (.getfield 12, 3) := by decide +kernel
theorem dd_X7_quarrel_11 : decode cX7_quarrel 11 = .ok (.getfield 52, 3) := by decide +kernel
theorem dd_X7_quarrel_14 : decode cX7_quarrel 14 = .ok (.iload_n 1, 1) := by decide +kernel
theorem dd_X7_quarrel_15 : decode cX7_quarrel 15 = .ok (.invokevirtual 160, 3) := by decide +kernel
theorem dd_X7_quarrel_18 : decode cX7_quarrel 18 = .ok (.goto 9, 3) := by decide +kernel
theorem dd_X7_quarrel_21 : decode cX7_quarrel 21 = .ok (.aload_n 0, 1) := by decide +kernel
theorem dd_X7_quarrel_22 : decode cX7_quarrel 22 = .ok (.bipush (-2), 2) := by decide +kernel
theorem dd_X7_quarrel_24 : decode cX7_quarrel 24 = .ok (.invokevirtual 73, 3) := by decide +kernel
theorem dd_X7_quarrel_27 : decode cX7_quarrel 27 = .ok (.ireturn, 1) := by decide +kernel
def tb_X7_quarrel (kd : Nat → Nat) (K : zK) : zTab := [(0, zt_iload 1 1), (1, zt_call kd sp_X7_isThing 1 4), (4, zt_if (fun x => x = 0) (fun x => ¬ x = 0) 21 7), (7, zt_aload 0 8), (8, zt_getR kd 1 1 0 11), (11, zt_getR kd 2 1 0 14), (14, zt_iload 1 15), (15, zt_call kd sp_X3_firstQuarrel 2 18), (18, zt_goto 27), (21, zt_aload 0 22), (22, zt_const (zI (-2)) 24), (24, zt_call kd sp_X7_refuse 2 27), (27, zt_iret K)]
set_option maxRecDepth 20000 in
theorem tk_X7_quarrel (d : Nat) (h_X7_isThing : zMS 1 yX7_isThing cX7_isThing 1 (some .boolean) sp_X7_isThing) (h_X3_firstQuarrel : zMS 6 yX3_firstQuarrel cX3_firstQuarrel 7 (some .int) sp_X3_firstQuarrel) (h_X7_refuse : zMS 2 yX7_refuse cX7_refuse 3 (some .int) sp_X7_refuse) : zTrue RX7 cX7_quarrel 2 (some .int) (d + 7) (fun kd K => tb_X7_quarrel kd K) := by
  intro p l e R s m args below meth c D cy A ad bl Qm K C0 hr hlocks hQ
  obtain ⟨hx, hb, hml, hown, hts, hK, hD, hA0, hN, hE, ⟨hR1, hR2⟩, hc1, hc2⟩ := id C0
  unfold tb_X7_quarrel
  refine List.forall_mem_cons.mpr ⟨ok_iload_n hx hb rfl dd_X7_quarrel_0, ?_⟩
  refine List.forall_mem_cons.mpr ⟨ok_callS (n := 1) C0 (h_X7_isThing (d + 6) (by omega)) (by decide) wd_324 wd_322 wd_323 wd_100 ⟨by decide +kernel, by decide +kernel, by decide +kernel⟩ dd_X7_quarrel_1, ?_⟩
  refine List.forall_mem_cons.mpr ⟨ok_if_eq hx hb dd_X7_quarrel_4 (by decide), ?_⟩
  refine List.forall_mem_cons.mpr ⟨ok_aload_n hx hb rfl dd_X7_quarrel_7, ?_⟩
  refine List.forall_mem_cons.mpr ⟨ok_getR (j := 0) hx hb hts zi_X7 hown hK zc_X7 (by decide) rfl (fun t fl h => by cases h; rfl) (hts _ wd_271) dd_X7_quarrel_8, ?_⟩
  refine List.forall_mem_cons.mpr ⟨ok_getRN (j := 0) hx hb hts zi_X2 hown hK zc_X2 (by decide) rfl (fun t fl h => by cases h; rfl) (va_Nw.use rfl (hN _ nd_201)) dd_X7_quarrel_11, ?_⟩
  refine List.forall_mem_cons.mpr ⟨ok_iload_n hx hb rfl dd_X7_quarrel_14, ?_⟩
  refine List.forall_mem_cons.mpr ⟨ok_callVN (n := 1) zc_X3 rv_X3_firstQuarrel C0 (h_X3_firstQuarrel (d + 6) (by omega)) (by decide) wd_602 nd_599 wd_601 wd_32 wd_102 ⟨by decide +kernel, by decide +kernel, by decide +kernel⟩ dd_X7_quarrel_15, ?_⟩
  refine List.forall_mem_cons.mpr ⟨ok_goto hx hb dd_X7_quarrel_18 (by decide), ?_⟩
  refine List.forall_mem_cons.mpr ⟨ok_aload_n hx hb rfl dd_X7_quarrel_21, ?_⟩
  refine List.forall_mem_cons.mpr ⟨ok_bipush hx hb dd_X7_quarrel_22 (by decide), ?_⟩
  refine List.forall_mem_cons.mpr ⟨ok_callV (n := 1) zc_X7 rv_X7_refuse C0 (h_X7_refuse (d + 6) (by omega)) (by decide) wd_328 wd_325 wd_327 wd_3 wd_100 ⟨rfl, by decide +kernel, by decide +kernel, by decide +kernel⟩ dd_X7_quarrel_24, ?_⟩
  refine List.forall_mem_cons.mpr ⟨ok_iret hx hb hr hlocks hQ dd_X7_quarrel_27, ?_⟩
  exact fun _ h => absurd h List.not_mem_nil
set_option maxRecDepth 100000 in
theorem vc_X7_quarrel_0 {kd : Nat → Nat} {K : zK} {X : zX} (hX : ∀ (n pc : Nat) (ls : zLS) (st : List zV) (M : zM), zrun (tb_X7_quarrel kd K) [] n X pc ls st M → X pc ls st M) {g : Int32} {M : zM} (hk0 : kd 0 = 1) (hk1 : kd 2 = 3) (hk2 : kd 1 = 2) (h : ∀ v1 : Int32, (v1 = zp (isT g.toInt)) → ((v1 = 0) → ∃ s2 : St, (RpX kd M s2) ∧ ∃ k2 : Nat, (k2 < 3 ∧ (-2 : Int32).toInt = -2 - (k2 : Int)) ∧ ∀ v2 : Int32, (v2 = (-2 : Int32)) → ∀ M2 : zM, (RpX kd M2 (sRf s2 k2)) → (fr9 M M2) → K (some (zI (v2))) M2) ∧ ((¬ v1 = 0) → ∃ a3 : Sk, (RpS (M.1 2) a3) ∧ ∀ v3 : Int32, (sk_isQ a3 g.toInt v3.toInt) → K (some (zI (v3))) M)) : X 0 [some (zR 0 0), some (zI (g))] [] M := hX 11 0 _ [] M (show ∀ v1 : Int32, (v1 = zp (isT g.toInt)) → ((v1 = 0) → (kd 0 = 1) ∧ ∃ s2 : St, (RpX kd M s2) ∧ ∃ k2 : Nat, (k2 < 3 ∧ (-2 : Int32).toInt = -2 - (k2 : Int)) ∧ ∀ v2 : Int32, (v2 = (-2 : Int32)) → ∀ M2 : zM, (RpX kd M2 (sRf s2 k2)) → (fr9 M M2) → K (some (zI (v2))) M2) ∧ ((¬ v1 = 0) → (kd 0 = 1) ∧ (kd 1 = 2) ∧ (kd 2 = 3) ∧ ∃ a3 : Sk, (RpS (M.1 2) a3) ∧ ∀ v3 : Int32, (sk_isQ a3 g.toInt v3.toInt) → K (some (zI (v3))) M) from fun v1 => have h := h v1; fun q => have h := h q; ⟨fun q => have h := h.1 q; ⟨hk0, h.elim (fun s2 h => ⟨s2, ⟨h.1, have h := h.2; h.elim (fun k2 h => ⟨k2, ⟨h.1, have h := h.2; fun v2 => have h := h v2; fun q => have h := h q; fun M2 => have h := h M2; fun q => have h := h q; fun q => have h := h q; h⟩⟩)⟩⟩)⟩, fun q => have h := h.2 q; ⟨hk0, ⟨hk2, ⟨hk1, h.elim (fun a3 h => ⟨a3, ⟨h.1, have h := h.2; fun v3 => have h := h v3; fun q => have h := h q; h⟩⟩)⟩⟩⟩⟩)
def sp_X7_look : zSpec := fun kd as M K => match as with
  | [.inr (.inr (.inl (0, 0))), .inl c, .inl i] => (kd 0 = 1) ∧ (KdX kd) ∧ ∃ s : St, (RpX kd M s) ∧ ∀ v : Int32, (er_look s c.toInt i.toInt v.toInt) → ∀ M' : zM, (RpX kd M' (es_ends s c.toInt i.toInt)) → (fr9 M M') → K (some (.inl v)) M'
  | _ => False
theorem rv_X7_look : zrv sp_X7_look 1 2 := by
  intro kd as M K h
  unfold sp_X7_look at h
  split at h
  · exact ⟨_, _, rfl, h.1⟩
  · exact h.elim
theorem dd_X7_look_0 : decode cX7_look 0 = .ok (.aload_n 0, 1) := by decide +kernel
theorem dd_X7_look_1 : decode cX7_look 1 = .ok (.getfield 12, 3) := by decide +kernel
theorem dd_X7_look_4 : decode cX7_look 4 = .ok (.getfield 52, 3) := by decide +kernel
theorem dd_X7_look_7 : decode cX7_look 7 = .ok (.iload_n 1, 1) := by decide +kernel
theorem dd_X7_look_8 : decode cX7_look 8 = .ok (.iload_n 2, 1) := by decide +kernel
theorem dd_X7_look_9 : decode cX7_look 9 = .ok (.invokevirtual 144, 3) := by decide +kernel
theorem dd_X7_look_12 : decode cX7_look 12 = .ok (.ifCond .ne 10, 3) := by decide +kernel
theorem dd_X7_look_15 : decode cX7_look 15 = .ok (.aload_n 0, 1) := by decide +kernel
theorem dd_X7_look_16 : decode cX7_look 16 = .ok (.bipush (-2), 2) := by decide +kernel
theorem dd_X7_look_18 : decode cX7_look 18 = .ok (.invokevirtual 73, 3) := by decide +kernel
theorem dd_X7_look_21 : decode cX7_look 21 = .ok (.ireturn, 1) := by decide +kernel
theorem dd_X7_look_22 : decode cX7_look 22 = .ok (.aload_n 0, 1) := by decide +kernel
theorem dd_X7_look_23 : decode cX7_look 23 = .ok (.getfield 12, 3) := by decide +kernel
theorem dd_X7_look_26 : decode cX7_look 26 = .ok (.getfield 188, 3) := by decide +kernel
theorem dd_X7_look_29 : decode cX7_look 29 = .ok (.aload_n 0, 1) := by decide +kernel
theorem dd_X7_look_30 : decode cX7_look 30 = .ok (.getfield 12, 3) := by decide +kernel
theorem dd_X7_look_33 : decode cX7_look 33 = .ok (.getfield 52, 3) := by decide +kernel
theorem dd_X7_look_36 : decode cX7_look 36 = .ok (.iload_n 1, 1) := by decide +kernel
theorem dd_X7_look_37 : decode cX7_look 37 = .ok (.iload_n 2, 1) := by decide +kernel
theorem dd_X7_look_38 : decode cX7_look 38 = .ok (.invokevirtual 198, 3) := by decide +kernel
theorem dd_X7_look_41 : decode cX7_look 41 = .ok (.istore_n 3, 1) := by decide +kernel
theorem dd_X7_look_42 : decode cX7_look 42 = .ok (.iload_n 3, 1) := by decide +kernel
theorem dd_X7_look_43 : decode cX7_look 43 = .ok (.ifCond .ne 7, 3) := by decide +kernel
theorem dd_X7_look_46 : decode cX7_look 46 = .ok (.iconst (-1), 1) := by decide +kernel
theorem dd_X7_look_47 : decode cX7_look 47 = .ok (.goto 16, 3) := by decide +kernel
theorem dd_X7_look_50 : decode cX7_look 50 = .ok (.aload_n 0, 1) := by decide +kernel
theorem dd_X7_look_51 : decode cX7_look 51 = .ok (.getfield 12, 3) := by decide +kernel
theorem dd_X7_look_54 : decode cX7_look 54 = .ok (.getfield 52, 3) := by decide +kernel
theorem dd_X7_look_57 : decode cX7_look 57 = .ok (.iload_n 3, 1) := by decide +kernel
theorem dd_X7_look_58 : decode cX7_look 58 = .ok (.iload_n 1, 1) := by decide +kernel
theorem dd_X7_look_59 : decode cX7_look 59 = .ok (.iload_n 2, 1) := by decide +kernel
theorem dd_X7_look_60 : decode cX7_look 60 = .ok (.invokevirtual 202, 3) := by decide +kernel
theorem dd_X7_look_63 : decode cX7_look 63 = .ok (.ireturn, 1) := by decide +kernel
def tb_X7_look (kd : Nat → Nat) (K : zK) : zTab := [(0, zt_aload 0 1), (1, zt_getR kd 1 1 0 4), (4, zt_getR kd 2 1 0 7), (7, zt_iload 1 8), (8, zt_iload 2 9), (9, zt_call kd sp_X3_has 3 12), (12, zt_if (fun x => ¬ x = 0) (fun x => x = 0) 22 15), (15, zt_aload 0 16), (16, zt_const (zI (-2)) 18), (18, zt_call kd sp_X7_refuse 2 21), (21, zt_iret K), (22, zt_aload 0 23), (23, zt_getR kd 1 1 0 26), (26, zt_getR kd 2 3 0 29), (29, zt_aload 0 30), (30, zt_getR kd 1 1 0 33), (33, zt_getR kd 2 1 0 36), (36, zt_iload 1 37), (37, zt_iload 2 38), (38, zt_call kd sp_X0_fitting 4 41), (41, zt_istore 3 42), (42, zt_iload 3 43), (43, zt_if (fun x => ¬ x = 0) (fun x => x = 0) 50 46), (46, zt_const (zI (-1)) 47), (47, zt_goto 63), (50, zt_aload 0 51), (51, zt_getR kd 1 1 0 54), (54, zt_getR kd 2 1 0 57), (57, zt_iload 3 58), (58, zt_iload 1 59), (59, zt_iload 2 60), (60, zt_call kd sp_X3_tellingYear 4 63), (63, zt_iret K)]
set_option maxRecDepth 20000 in
theorem tk_X7_look (d : Nat) (h_X3_has : zMS 2 yX3_has cX3_has 3 (some .boolean) sp_X3_has) (h_X7_refuse : zMS 2 yX7_refuse cX7_refuse 3 (some .int) sp_X7_refuse) (h_X0_fitting : zMS 5 yX0_fitting cX0_fitting 6 (some .int) sp_X0_fitting) (h_X3_tellingYear : zMS 4 yX3_tellingYear cX3_tellingYear 10 (some .int) sp_X3_tellingYear) : zTrue RX7 cX7_look 4 (some .int) (d + 6) (fun kd K => tb_X7_look kd K) := by
  intro p l e R s m args below meth c D cy A ad bl Qm K C0 hr hlocks hQ
  obtain ⟨hx, hb, hml, hown, hts, hK, hD, hA0, hN, hE, ⟨hR1, hR2⟩, hc1, hc2⟩ := id C0
  unfold tb_X7_look
  refine List.forall_mem_cons.mpr ⟨ok_aload_n hx hb rfl dd_X7_look_0, ?_⟩
  refine List.forall_mem_cons.mpr ⟨ok_getR (j := 0) hx hb hts zi_X7 hown hK zc_X7 (by decide) rfl (fun t fl h => by cases h; rfl) (hts _ wd_271) dd_X7_look_1, ?_⟩
  refine List.forall_mem_cons.mpr ⟨ok_getRN (j := 0) hx hb hts zi_X2 hown hK zc_X2 (by decide) rfl (fun t fl h => by cases h; rfl) (va_Nw.use rfl (hN _ nd_201)) dd_X7_look_4, ?_⟩
  refine List.forall_mem_cons.mpr ⟨ok_iload_n hx hb rfl dd_X7_look_7, ?_⟩
  refine List.forall_mem_cons.mpr ⟨ok_iload_n hx hb rfl dd_X7_look_8, ?_⟩
  refine List.forall_mem_cons.mpr ⟨ok_callVN (n := 2) zc_X3 rv_X3_has C0 (h_X3_has (d + 5) (by omega)) (by decide) wd_547 nd_544 wd_546 wd_24 wd_102 ⟨by decide +kernel, by decide +kernel, by decide +kernel⟩ dd_X7_look_9, ?_⟩
  refine List.forall_mem_cons.mpr ⟨ok_if_ne hx hb dd_X7_look_12 (by decide), ?_⟩
  refine List.forall_mem_cons.mpr ⟨ok_aload_n hx hb rfl dd_X7_look_15, ?_⟩
  refine List.forall_mem_cons.mpr ⟨ok_bipush hx hb dd_X7_look_16 (by decide), ?_⟩
  refine List.forall_mem_cons.mpr ⟨ok_callV (n := 1) zc_X7 rv_X7_refuse C0 (h_X7_refuse (d + 5) (by omega)) (by decide) wd_328 wd_325 wd_327 wd_3 wd_100 ⟨rfl, by decide +kernel, by decide +kernel, by decide +kernel⟩ dd_X7_look_18, ?_⟩
  refine List.forall_mem_cons.mpr ⟨ok_iret hx hb hr hlocks hQ dd_X7_look_21, ?_⟩
  refine List.forall_mem_cons.mpr ⟨ok_aload_n hx hb rfl dd_X7_look_22, ?_⟩
  refine List.forall_mem_cons.mpr ⟨ok_getR (j := 0) hx hb hts zi_X7 hown hK zc_X7 (by decide) rfl (fun t fl h => by cases h; rfl) (hts _ wd_271) dd_X7_look_23, ?_⟩
  refine List.forall_mem_cons.mpr ⟨ok_getRN (j := 2) hx hb hts zi_X2 hown hK zc_X2 (by decide) rfl (fun t fl h => by cases h; rfl) (va_Nw.use rfl (hN _ nd_205)) dd_X7_look_26, ?_⟩
  refine List.forall_mem_cons.mpr ⟨ok_aload_n hx hb rfl dd_X7_look_29, ?_⟩
  refine List.forall_mem_cons.mpr ⟨ok_getR (j := 0) hx hb hts zi_X7 hown hK zc_X7 (by decide) rfl (fun t fl h => by cases h; rfl) (hts _ wd_271) dd_X7_look_30, ?_⟩
  refine List.forall_mem_cons.mpr ⟨ok_getRN (j := 0) hx hb hts zi_X2 hown hK zc_X2 (by decide) rfl (fun t fl h => by cases h; rfl) (va_Nw.use rfl (hN _ nd_201)) dd_X7_look_33, ?_⟩
  refine List.forall_mem_cons.mpr ⟨ok_iload_n hx hb rfl dd_X7_look_36, ?_⟩
  refine List.forall_mem_cons.mpr ⟨ok_iload_n hx hb rfl dd_X7_look_37, ?_⟩
  refine List.forall_mem_cons.mpr ⟨ok_callVN (n := 3) zc_X0 rv_X0_fitting C0 (h_X0_fitting (d + 5) (by omega)) (by decide) wd_715 nd_712 wd_714 wd_50 wd_104 ⟨by decide +kernel, by decide +kernel, by decide +kernel⟩ dd_X7_look_38, ?_⟩
  refine List.forall_mem_cons.mpr ⟨ok_istore_n hx hb rfl dd_X7_look_41, ?_⟩
  refine List.forall_mem_cons.mpr ⟨ok_iload_n hx hb rfl dd_X7_look_42, ?_⟩
  refine List.forall_mem_cons.mpr ⟨ok_if_ne hx hb dd_X7_look_43 (by decide), ?_⟩
  refine List.forall_mem_cons.mpr ⟨ok_iconst hx hb dd_X7_look_46 (by decide), ?_⟩
  refine List.forall_mem_cons.mpr ⟨ok_goto hx hb dd_X7_look_47 (by decide), ?_⟩
  refine List.forall_mem_cons.mpr ⟨ok_aload_n hx hb rfl dd_X7_look_50, ?_⟩
  refine List.forall_mem_cons.mpr ⟨ok_getR (j := 0) hx hb hts zi_X7 hown hK zc_X7 (by decide) rfl (fun t fl h => by cases h; rfl) (hts _ wd_271) dd_X7_look_51, ?_⟩
  refine List.forall_mem_cons.mpr ⟨ok_getRN (j := 0) hx hb hts zi_X2 hown hK zc_X2 (by decide) rfl (fun t fl h => by cases h; rfl) (va_Nw.use rfl (hN _ nd_201)) dd_X7_look_54, ?_⟩
  refine List.forall_mem_cons.mpr ⟨ok_iload_n hx hb rfl dd_X7_look_57, ?_⟩
  refine List.forall_mem_cons.mpr ⟨ok_iload_n hx hb rfl dd_X7_look_58, ?_⟩
  refine List.forall_mem_cons.mpr ⟨ok_iload_n hx hb rfl dd_X7_look_59, ?_⟩
  refine List.forall_mem_cons.mpr ⟨ok_callVN (n := 3) zc_X3 rv_X3_tellingYear C0 (h_X3_tellingYear (d + 5) (by omega)) (by decide) wd_728 nd_725 wd_727 wd_52 wd_102 ⟨by decide +kernel, by decide +kernel, by decide +kernel⟩ dd_X7_look_60, ?_⟩
  refine List.forall_mem_cons.mpr ⟨ok_iret hx hb hr hlocks hQ dd_X7_look_63, ?_⟩
  exact fun _ h => absurd h List.not_mem_nil
set_option maxRecDepth 100000 in
theorem vc_X7_look_0 {kd : Nat → Nat} {K : zK} {X : zX} (hX : ∀ (n pc : Nat) (ls : zLS) (st : List zV) (M : zM), zrun (tb_X7_look kd K) [] n X pc ls st M → X pc ls st M) {c : Int32} {i : Int32} {M : zM} (hk0 : kd 2 = 3) (hk1 : kd 1 = 2) (hk2 : kd 0 = 1) (hk3 : kd 4 = 5) (h : ∃ a1 : Sk, (RpS (M.1 2) a1) ∧ ∀ v1 : Int32, (v1 = zp ((sk_at a1 c.toInt i.toInt).isSome = true)) → ((¬ v1 = 0) → ∃ L2 : List Se, (RpL (M.1 4) L2) ∧ ∃ a2 : Sk, (RpS (M.1 2) a2) ∧ ∃ l2 : Ly, (sk_at a2 c.toInt i.toInt = some l2) ∧ ∀ v2 : Int32, (v2.toInt = seFit L2 l2 (sk_at a2 c.toInt (i.toInt + 1)) c.toInt i.toInt) → ((¬ v2 = 0) → ∃ a3 : Sk, (RpS (M.1 2) a3) ∧ (0 ≤ v2.toInt ∧ v2.toInt < 64) ∧ ∃ l3 : Ly, (sk_at a3 c.toInt i.toInt = some l3) ∧ ∀ v3 : Int32, (isArg (sk_lk a3 v2.toInt c.toInt i.toInt) a3.2 (hi99 a3.2) v3.toInt) → K (some (zI (v3))) M) ∧ ((v2 = 0) → K (some (zI ((-1 : Int32)))) M)) ∧ ((v1 = 0) → ∃ s4 : St, (RpX kd M s4) ∧ ∃ k4 : Nat, (k4 < 3 ∧ (-2 : Int32).toInt = -2 - (k4 : Int)) ∧ ∀ v4 : Int32, (v4 = (-2 : Int32)) → ∀ M4 : zM, (RpX kd M4 (sRf s4 k4)) → (fr9 M M4) → K (some (zI (v4))) M4)) : X 0 [some (zR 0 0), some (zI (c)), some (zI (i)), none] [] M := hX 28 0 _ [] M (show (kd 0 = 1) ∧ (kd 1 = 2) ∧ (kd 2 = 3) ∧ ∃ a1 : Sk, (RpS (M.1 2) a1) ∧ ∀ v1 : Int32, (v1 = zp ((sk_at a1 c.toInt i.toInt).isSome = true)) → ((¬ v1 = 0) → (kd 0 = 1) ∧ (kd 1 = 2) ∧ (kd 0 = 1) ∧ (kd 1 = 2) ∧ (kd 4 = 5) ∧ (kd 2 = 3) ∧ ∃ L2 : List Se, (RpL (M.1 4) L2) ∧ ∃ a2 : Sk, (RpS (M.1 2) a2) ∧ ∃ l2 : Ly, (sk_at a2 c.toInt i.toInt = some l2) ∧ ∀ v2 : Int32, (v2.toInt = seFit L2 l2 (sk_at a2 c.toInt (i.toInt + 1)) c.toInt i.toInt) → ((¬ v2 = 0) → (kd 0 = 1) ∧ (kd 1 = 2) ∧ (kd 2 = 3) ∧ ∃ a3 : Sk, (RpS (M.1 2) a3) ∧ (0 ≤ v2.toInt ∧ v2.toInt < 64) ∧ ∃ l3 : Ly, (sk_at a3 c.toInt i.toInt = some l3) ∧ ∀ v3 : Int32, (isArg (sk_lk a3 v2.toInt c.toInt i.toInt) a3.2 (hi99 a3.2) v3.toInt) → K (some (zI (v3))) M) ∧ ((v2 = 0) → K (some (zI ((-1 : Int32)))) M)) ∧ ((v1 = 0) → (kd 0 = 1) ∧ ∃ s4 : St, (RpX kd M s4) ∧ ∃ k4 : Nat, (k4 < 3 ∧ (-2 : Int32).toInt = -2 - (k4 : Int)) ∧ ∀ v4 : Int32, (v4 = (-2 : Int32)) → ∀ M4 : zM, (RpX kd M4 (sRf s4 k4)) → (fr9 M M4) → K (some (zI (v4))) M4) from ⟨hk2, ⟨hk1, ⟨hk0, h.elim (fun a1 h => ⟨a1, ⟨h.1, have h := h.2; fun v1 => have h := h v1; fun q => have h := h q; ⟨fun q => have h := h.1 q; ⟨hk2, ⟨hk1, ⟨hk2, ⟨hk1, ⟨hk3, ⟨hk0, h.elim (fun L2 h => ⟨L2, ⟨h.1, have h := h.2; h.elim (fun a2 h => ⟨a2, ⟨h.1, have h := h.2; h.elim (fun l2 h => ⟨l2, ⟨h.1, have h := h.2; fun v2 => have h := h v2; fun q => have h := h q; ⟨fun q => have h := h.1 q; ⟨hk2, ⟨hk1, ⟨hk0, h.elim (fun a3 h => ⟨a3, ⟨h.1, have h := h.2; ⟨h.1, have h := h.2; h.elim (fun l3 h => ⟨l3, ⟨h.1, have h := h.2; fun v3 => have h := h v3; fun q => have h := h q; h⟩⟩)⟩⟩⟩)⟩⟩⟩, fun q => have h := h.2 q; h⟩⟩⟩)⟩⟩)⟩⟩)⟩⟩⟩⟩⟩⟩, fun q => have h := h.2 q; ⟨hk2, h.elim (fun s4 h => ⟨s4, ⟨h.1, have h := h.2; h.elim (fun k4 h => ⟨k4, ⟨h.1, have h := h.2; fun v4 => have h := h v4; fun q => have h := h q; fun M4 => have h := h M4; fun q => have h := h q; fun q => have h := h q; h⟩⟩)⟩⟩)⟩⟩⟩⟩)⟩⟩⟩)
def sp_X7_strokes : zSpec := fun kd as M K => match as with
  | [.inr (.inr (.inl (0, 0))), .inl g, .inl z, .inl y, .inl w] => (kd 0 = 1) ∧ (KdX kd) ∧ ∃ s : St, (RpX kd M s) ∧ ∀ v : Int32, (er_strokes s g.toInt z.toInt y.toInt w.toInt v.toInt) → ∀ M' : zM, (RpX kd M' (es_strokes s g.toInt z.toInt y.toInt w.toInt)) → (fr9 M M') → K (some (.inl v)) M'
  | _ => False
theorem rv_X7_strokes : zrv sp_X7_strokes 1 4 := by
  intro kd as M K h
  unfold sp_X7_strokes at h
  split at h
  · exact ⟨_, _, rfl, h.1⟩
  · exact h.elim
theorem dd_X7_strokes_0 : decode cX7_strokes 0 = .ok (.iload_n 1, 1) := by decide +kernel
theorem dd_X7_strokes_1 : decode cX7_strokes 1 = .ok (.invokestatic 70, 3) := by decide +kernel
theorem dd_X7_strokes_4 : decode cX7_strokes 4 = .ok (.ifCond .eq 32, 3) := by decide +kernel
theorem dd_X7_strokes_7 : decode cX7_strokes 7 = .ok (.iload_n 2, 1) := by decide +kernel
theorem dd_X7_strokes_8 : decode cX7_strokes 8 = .ok (.iconst 1, 1) := by decide +kernel
theorem dd_X7_strokes_9 : decode cX7_strokes 9 = .ok (.iconst 2, 1) := by decide +kernel
theorem dd_X7_strokes_10 : decode cX7_strokes 10 = .ok (.invokestatic 66, 3) := by decide +kernel
theorem dd_X7_strokes_13 : decode cX7_strokes 13 = .ok (.ifCond .eq 23, 3) := by decide +kernel
theorem dd_X7_strokes_16 : decode cX7_strokes 16 = .ok (.iload_n 3, 1) := by decide +kernel
theorem dd_X7_strokes_17 : decode cX7_strokes 17 = .ok (.iconst 0, 1) := by decide +kernel
theorem dd_X7_strokes_18 : decode cX7_strokes 18 = .ok (.bipush 99, 2) := by decide +kernel
theorem dd_X7_strokes_20 : decode cX7_strokes 20 = .ok (.invokestatic 66, 3) := by decide +kernel
theorem dd_X7_strokes_23 : decode cX7_strokes 23 = .ok (.ifCond .eq 13, 3) := by decide +kernel
theorem dd_X7_strokes_26 : decode cX7_strokes 26 = .ok (.iload 4, 2) := by decide +kernel
theorem dd_X7_strokes_28 : decode cX7_strokes 28 = .ok (.iconst 0, 1) := by decide +kernel
theorem dd_X7_strokes_29 : decode cX7_strokes 29 = .ok (.iconst 1, 1) := by decide +kernel
theorem dd_X7_strokes_30 : decode cX7_strokes 30 = .ok (.invokestatic 66, 3) := by decide +kernel
theorem dd_X7_strokes_33 : decode cX7_strokes 33 = .ok (.ifCond .ne 10, 3) := by decide +kernel
theorem dd_X7_strokes_36 : decode cX7_strokes 36 = .ok (.aload_n 0, 1) := by decide +kernel
theorem dd_X7_strokes_37 : decode cX7_strokes 37 = .ok (.bipush (-2), 2) := by decide +kernel
theorem dd_X7_strokes_39 : decode cX7_strokes 39 = .ok (.invokevirtual 73, 3) := by decide +kernel
theorem dd_X7_strokes_42 : decode cX7_strokes 42 = .ok (.ireturn, 1) := by decide +kernel
theorem dd_X7_strokes_43 : decode cX7_strokes 43 = .ok (.aload_n 0, 1) := by decide +kernel
theorem dd_X7_strokes_44 : decode cX7_strokes 44 = .ok (.getfield 30, 3) := by decide +kernel
theorem dd_X7_strokes_47 : decode cX7_strokes 47 = .ok (.aload_n 0, 1) := by decide +kernel
theorem dd_X7_strokes_48 : decode cX7_strokes 48 = .ok (.getfield 12, 3) := by decide +kernel
theorem dd_X7_strokes_51 : decode cX7_strokes 51 = .ok (.getfield 52, 3) := by decide +kernel
theorem dd_X7_strokes_54 : decode cX7_strokes 54 = .ok (.iload_n 1, 1) := by decide +kernel
theorem dd_X7_strokes_55 : decode cX7_strokes 55 = .ok (.aload_n 0, 1) := by decide +kernel
theorem dd_X7_strokes_56 : decode cX7_strokes 56 = .ok (.getfield 12, 3) := by decide +kernel
theorem dd_X7_strokes_59 : decode cX7_strokes 59 = .ok (.getfield 52, 3) := by decide +kernel
theorem dd_X7_strokes_62 : decode cX7_strokes 62 = .ok (.getfield 100, 3) := by decide +kernel
theorem dd_X7_strokes_65 : decode cX7_strokes 65 = .ok (.iload_n 3, 1) := by decide +kernel
theorem dd_X7_strokes_66 : decode cX7_strokes 66 = .ok (.iadd, 1) := by decide +kernel
theorem dd_X7_strokes_67 : decode cX7_strokes 67 = .ok (.invokevirtual 173, 3) := by decide +kernel
theorem dd_X7_strokes_70 : decode cX7_strokes 70 = .ok (.aload_n 0, 1) := by decide +kernel
theorem dd_X7_strokes_71 : decode cX7_strokes 71 = .ok (.getfield 30, 3) := by decide +kernel
theorem dd_X7_strokes_74 : decode cX7_strokes 74 = .ok (.invokevirtual 177, 3) := by decide +kernel
theorem dd_X7_strokes_77 : decode cX7_strokes 77 = .ok (.iload_n 2, 1) := by decide +kernel
theorem dd_X7_strokes_78 : decode cX7_strokes 78 = .ok (.if_icmp .ne 14, 3) := by decide +kernel
theorem dd_X7_strokes_81 : decode cX7_strokes 81 = .ok (.iload 4, 2) := by decide +kernel
theorem dd_X7_strokes_83 : decode cX7_strokes 83 = .ok (.ifCond .ne 7, 3) := by decide +kernel
theorem dd_X7_strokes_86 : decode cX7_strokes 86 = .ok (.iconst 0, 1) := by decide +kernel
theorem dd_X7_strokes_87 : decode cX7_strokes 87 = .ok (.goto 4, 3) := by decide +kernel
theorem dd_X7_strokes_90 : decode cX7_strokes 90 = .ok (.iconst (-1), 1) := by decide +kernel
theorem dd_X7_strokes_91 : decode cX7_strokes 91 = .ok (.ireturn, 1) := by decide +kernel
theorem dd_X7_strokes_92 : decode cX7_strokes 92 = .ok (.iconst 1, 1) := by decide +kernel
theorem dd_X7_strokes_93 : decode cX7_strokes 93 = .ok (.istore 5, 2) := by decide +kernel
theorem dd_X7_strokes_95 : decode cX7_strokes 95 = .ok (.iload 5, 2) := by decide +kernel
theorem dd_X7_strokes_97 : decode cX7_strokes 97 = .ok (.iconst 2, 1) := by decide +kernel
theorem dd_X7_strokes_98 : decode cX7_strokes 98 = .ok (.if_icmp .gt 40, 3) := by decide +kernel
theorem dd_X7_strokes_101 : decode cX7_strokes 101 = .ok (.aload_n 0, 1) := by decide +kernel
theorem dd_X7_strokes_102 : decode cX7_strokes 102 = .ok (.getfield 30, 3) := by decide +kernel
theorem dd_X7_strokes_105 : decode cX7_strokes 105 = .ok (.iload_n 2, 1) := by decide +kernel
theorem dd_X7_strokes_106 : decode cX7_strokes 106 = .ok (.iload 5, 2) := by decide +kernel
theorem dd_X7_strokes_108 : decode cX7_strokes 108 = .ok (.invokevirtual 179, 3) := by decide +kernel
theorem dd_X7_strokes_111 : decode cX7_strokes 111 = .ok (.istore 6, 2) := by decide +kernel
theorem dd_X7_strokes_113 : decode cX7_strokes 113 = .ok (.iload 6, 2) := by decide +kernel
theorem dd_X7_strokes_115 : decode cX7_strokes 115 = .ok (.iconst (-1), 1) := by decide +kernel
theorem dd_X7_strokes_116 : decode cX7_strokes 116 = .ok (.if_icmp .eq 16, 3) := by decide +kernel
theorem dd_X7_strokes_119 : decode cX7_strokes 119 = .ok (.iload 4, 2) := by decide +kernel
theorem dd_X7_strokes_121 : decode cX7_strokes 121 = .ok (.ifCond .ne 8, 3) := by decide +kernel
theorem dd_X7_strokes_124 : decode cX7_strokes 124 = .ok (.iload 5, 2) := by decide +kernel
theorem dd_X7_strokes_126 : decode cX7_strokes 126 = .ok (.goto 5, 3) := by decide +kernel
theorem dd_X7_strokes_129 : decode cX7_strokes 129 = .ok (.iload 6, 2) := by decide +kernel
theorem dd_X7_strokes_131 : decode cX7_strokes 131 = .ok (.ireturn, 1) := by decide +kernel
theorem dd_X7_strokes_132 : decode cX7_strokes 132 = .ok (.iinc 5 1, 3) := by decide +kernel
theorem dd_X7_strokes_135 : decode cX7_strokes 135 = .ok (.goto (-40), 3) := by decide +kernel
theorem dd_X7_strokes_138 : decode cX7_strokes 138 = .ok (.iconst (-1), 1) := by decide +kernel
theorem dd_X7_strokes_139 : decode cX7_strokes 139 = .ok (.ireturn, 1) := by decide +kernel
def tb_X7_strokes (kd : Nat → Nat) (K : zK) : zTab := [(0, zt_iload 1 1), (1, zt_call kd sp_X7_isThing 1 4), (4, zt_if (fun x => x = 0) (fun x => ¬ x = 0) 36 7), (7, zt_iload 2 8), (8, zt_const (zI 1) 9), (9, zt_const (zI 2) 10), (10, zt_call kd sp_X7_within 3 13), (13, zt_if (fun x => x = 0) (fun x => ¬ x = 0) 36 16), (16, zt_iload 3 17), (17, zt_const (zI 0) 18), (18, zt_const (zI 99) 20), (20, zt_call kd sp_X7_within 3 23), (23, zt_if (fun x => x = 0) (fun x => ¬ x = 0) 36 26), (26, zt_iload 4 28), (28, zt_const (zI 0) 29), (29, zt_const (zI 1) 30), (30, zt_call kd sp_X7_within 3 33), (33, zt_if (fun x => ¬ x = 0) (fun x => x = 0) 43 36), (36, zt_aload 0 37), (37, zt_const (zI (-2)) 39), (39, zt_call kd sp_X7_refuse 2 42), (42, zt_iret K), (43, zt_aload 0 44), (44, zt_getR kd 1 6 0 47), (47, zt_aload 0 48), (48, zt_getR kd 1 1 0 51), (51, zt_getR kd 2 1 0 54), (54, zt_iload 1 55), (55, zt_aload 0 56), (56, zt_getR kd 1 1 0 59), (59, zt_getR kd 2 1 0 62), (62, zt_getI kd 3 6 65), (65, zt_iload 3 66), (66, zt_bin (fun x y => x + y) 67), (67, zt_call kd sp_X6_begin 4 70), (70, zt_aload 0 71), (71, zt_getR kd 1 6 0 74), (74, zt_call kd sp_X6_law 1 77), (77, zt_iload 2 78), (78, zt_icmp (fun x y => ¬ x = y) (fun x y => x = y) 92 81), (81, zt_iload 4 83), (83, zt_if (fun x => ¬ x = 0) (fun x => x = 0) 90 86), (86, zt_const (zI 0) 87), (87, zt_goto 91), (90, zt_const (zI (-1)) 91), (91, zt_iret K), (92, zt_const (zI 1) 93), (93, zt_istore 5 95), (95, zt_iload 5 97), (97, zt_const (zI 2) 98), (98, zt_icmp (fun x y => y < x) (fun x y => ¬ y < x) 138 101), (101, zt_aload 0 102), (102, zt_getR kd 1 6 0 105), (105, zt_iload 2 106), (106, zt_iload 5 108), (108, zt_call kd spa_X6_firstOfRow 3 111), (111, zt_istore 6 113), (113, zt_iload 6 115), (115, zt_const (zI (-1)) 116), (116, zt_icmp (fun x y => x = y) (fun x y => ¬ x = y) 132 119), (119, zt_iload 4 121), (121, zt_if (fun x => ¬ x = 0) (fun x => x = 0) 129 124), (124, zt_iload 5 126), (126, zt_goto 131), (129, zt_iload 6 131), (131, zt_iret K), (132, zt_iinc 5 1 135), (135, zt_goto 95), (138, zt_const (zI (-1)) 139), (139, zt_iret K)]
set_option maxRecDepth 20000 in
theorem tk_X7_strokes (d : Nat) (h_X7_isThing : zMS 1 yX7_isThing cX7_isThing 1 (some .boolean) sp_X7_isThing) (h_X7_within : zMS 1 yX7_within cX7_within 3 (some .boolean) sp_X7_within) (h_X7_refuse : zMS 2 yX7_refuse cX7_refuse 3 (some .int) sp_X7_refuse) (h_X6_begin : zMS 5 yX6_begin cX6_begin 5 none sp_X6_begin) (h_X6_law : zMS 1 yX6_law cX6_law 3 (some .int) sp_X6_law) (h_X6_firstOfRow : zMS 10 yX6_firstOfRow cX6_firstOfRow 5 (some .int) spa_X6_firstOfRow) : zTrue RX7 cX7_strokes 7 (some .int) (d + 11) (fun kd K => tb_X7_strokes kd K) := by
  intro p l e R s m args below meth c D cy A ad bl Qm K C0 hr hlocks hQ
  obtain ⟨hx, hb, hml, hown, hts, hK, hD, hA0, hN, hE, ⟨hR1, hR2⟩, hc1, hc2⟩ := id C0
  unfold tb_X7_strokes
  refine List.forall_mem_cons.mpr ⟨ok_iload_n hx hb rfl dd_X7_strokes_0, ?_⟩
  refine List.forall_mem_cons.mpr ⟨ok_callS (n := 1) C0 (h_X7_isThing (d + 10) (by omega)) (by decide) wd_324 wd_322 wd_323 wd_100 ⟨by decide +kernel, by decide +kernel, by decide +kernel⟩ dd_X7_strokes_1, ?_⟩
  refine List.forall_mem_cons.mpr ⟨ok_if_eq hx hb dd_X7_strokes_4 (by decide), ?_⟩
  refine List.forall_mem_cons.mpr ⟨ok_iload_n hx hb rfl dd_X7_strokes_7, ?_⟩
  refine List.forall_mem_cons.mpr ⟨ok_iconst hx hb dd_X7_strokes_8 (by decide), ?_⟩
  refine List.forall_mem_cons.mpr ⟨ok_iconst hx hb dd_X7_strokes_9 (by decide), ?_⟩
  refine List.forall_mem_cons.mpr ⟨ok_callS (n := 3) C0 (h_X7_within (d + 10) (by omega)) (by decide) wd_321 wd_319 wd_320 wd_100 ⟨by decide +kernel, by decide +kernel, by decide +kernel⟩ dd_X7_strokes_10, ?_⟩
  refine List.forall_mem_cons.mpr ⟨ok_if_eq hx hb dd_X7_strokes_13 (by decide), ?_⟩
  refine List.forall_mem_cons.mpr ⟨ok_iload_n hx hb rfl dd_X7_strokes_16, ?_⟩
  refine List.forall_mem_cons.mpr ⟨ok_iconst hx hb dd_X7_strokes_17 (by decide), ?_⟩
  refine List.forall_mem_cons.mpr ⟨ok_bipush hx hb dd_X7_strokes_18 (by decide), ?_⟩
  refine List.forall_mem_cons.mpr ⟨ok_callS (n := 3) C0 (h_X7_within (d + 10) (by omega)) (by decide) wd_321 wd_319 wd_320 wd_100 ⟨by decide +kernel, by decide +kernel, by decide +kernel⟩ dd_X7_strokes_20, ?_⟩
  refine List.forall_mem_cons.mpr ⟨ok_if_eq hx hb dd_X7_strokes_23 (by decide), ?_⟩
  refine List.forall_mem_cons.mpr ⟨ok_iload hx hb dd_X7_strokes_26, ?_⟩
  refine List.forall_mem_cons.mpr ⟨ok_iconst hx hb dd_X7_strokes_28 (by decide), ?_⟩
  refine List.forall_mem_cons.mpr ⟨ok_iconst hx hb dd_X7_strokes_29 (by decide), ?_⟩
  refine List.forall_mem_cons.mpr ⟨ok_callS (n := 3) C0 (h_X7_within (d + 10) (by omega)) (by decide) wd_321 wd_319 wd_320 wd_100 ⟨by decide +kernel, by decide +kernel, by decide +kernel⟩ dd_X7_strokes_30, ?_⟩
  refine List.forall_mem_cons.mpr ⟨ok_if_ne hx hb dd_X7_strokes_33 (by decide), ?_⟩
  refine List.forall_mem_cons.mpr ⟨ok_aload_n hx hb rfl dd_X7_strokes_36, ?_⟩
  refine List.forall_mem_cons.mpr ⟨ok_bipush hx hb dd_X7_strokes_37 (by decide), ?_⟩
  refine List.forall_mem_cons.mpr ⟨ok_callV (n := 1) zc_X7 rv_X7_refuse C0 (h_X7_refuse (d + 10) (by omega)) (by decide) wd_328 wd_325 wd_327 wd_3 wd_100 ⟨rfl, by decide +kernel, by decide +kernel, by decide +kernel⟩ dd_X7_strokes_39, ?_⟩
  refine List.forall_mem_cons.mpr ⟨ok_iret hx hb hr hlocks hQ dd_X7_strokes_42, ?_⟩
  refine List.forall_mem_cons.mpr ⟨ok_aload_n hx hb rfl dd_X7_strokes_43, ?_⟩
  refine List.forall_mem_cons.mpr ⟨ok_getR (j := 3) hx hb hts zi_X7 hown hK zc_X7 (by decide) rfl (fun t fl h => by cases h; rfl) (hts _ wd_274) dd_X7_strokes_44, ?_⟩
  refine List.forall_mem_cons.mpr ⟨ok_aload_n hx hb rfl dd_X7_strokes_47, ?_⟩
  refine List.forall_mem_cons.mpr ⟨ok_getR (j := 0) hx hb hts zi_X7 hown hK zc_X7 (by decide) rfl (fun t fl h => by cases h; rfl) (hts _ wd_271) dd_X7_strokes_48, ?_⟩
  refine List.forall_mem_cons.mpr ⟨ok_getRN (j := 0) hx hb hts zi_X2 hown hK zc_X2 (by decide) rfl (fun t fl h => by cases h; rfl) (va_Nw.use rfl (hN _ nd_201)) dd_X7_strokes_51, ?_⟩
  refine List.forall_mem_cons.mpr ⟨ok_iload_n hx hb rfl dd_X7_strokes_54, ?_⟩
  refine List.forall_mem_cons.mpr ⟨ok_aload_n hx hb rfl dd_X7_strokes_55, ?_⟩
  refine List.forall_mem_cons.mpr ⟨ok_getR (j := 0) hx hb hts zi_X7 hown hK zc_X7 (by decide) rfl (fun t fl h => by cases h; rfl) (hts _ wd_271) dd_X7_strokes_56, ?_⟩
  refine List.forall_mem_cons.mpr ⟨ok_getRN (j := 0) hx hb hts zi_X2 hown hK zc_X2 (by decide) rfl (fun t fl h => by cases h; rfl) (va_Nw.use rfl (hN _ nd_201)) dd_X7_strokes_59, ?_⟩
  refine List.forall_mem_cons.mpr ⟨ok_getIN (j := 6) hx hb hts zi_X3 hown hK zc_X3 (by decide) rfl (fun t fl h => by cases h; rfl) (va_Nw.use rfl (hN _ nd_144)) dd_X7_strokes_62, ?_⟩
  refine List.forall_mem_cons.mpr ⟨ok_iload_n hx hb rfl dd_X7_strokes_65, ?_⟩
  refine List.forall_mem_cons.mpr ⟨ok_iadd hx hb dd_X7_strokes_66, ?_⟩
  refine List.forall_mem_cons.mpr ⟨ok_callVN (n := 3) zc_X6 rv_X6_begin C0 (h_X6_begin (d + 10) (by omega)) (by decide) wd_639 nd_636 wd_638 wd_38 wd_105 ⟨by decide +kernel, by decide +kernel, by decide +kernel⟩ dd_X7_strokes_67, ?_⟩
  refine List.forall_mem_cons.mpr ⟨ok_aload_n hx hb rfl dd_X7_strokes_70, ?_⟩
  refine List.forall_mem_cons.mpr ⟨ok_getR (j := 3) hx hb hts zi_X7 hown hK zc_X7 (by decide) rfl (fun t fl h => by cases h; rfl) (hts _ wd_274) dd_X7_strokes_71, ?_⟩
  refine List.forall_mem_cons.mpr ⟨ok_callVN (n := 0) zc_X6 rv_X6_law C0 (h_X6_law (d + 10) (by omega)) (by decide) wd_645 nd_642 wd_644 wd_39 wd_105 ⟨by decide +kernel, by decide +kernel, by decide +kernel⟩ dd_X7_strokes_74, ?_⟩
  refine List.forall_mem_cons.mpr ⟨ok_iload_n hx hb rfl dd_X7_strokes_77, ?_⟩
  refine List.forall_mem_cons.mpr ⟨ok_icmp_ne hx hb dd_X7_strokes_78 (by decide), ?_⟩
  refine List.forall_mem_cons.mpr ⟨ok_iload hx hb dd_X7_strokes_81, ?_⟩
  refine List.forall_mem_cons.mpr ⟨ok_if_ne hx hb dd_X7_strokes_83 (by decide), ?_⟩
  refine List.forall_mem_cons.mpr ⟨ok_iconst hx hb dd_X7_strokes_86 (by decide), ?_⟩
  refine List.forall_mem_cons.mpr ⟨ok_goto hx hb dd_X7_strokes_87 (by decide), ?_⟩
  refine List.forall_mem_cons.mpr ⟨ok_iconst hx hb dd_X7_strokes_90 (by decide), ?_⟩
  refine List.forall_mem_cons.mpr ⟨ok_iret hx hb hr hlocks hQ dd_X7_strokes_91, ?_⟩
  refine List.forall_mem_cons.mpr ⟨ok_iconst hx hb dd_X7_strokes_92 (by decide), ?_⟩
  refine List.forall_mem_cons.mpr ⟨ok_istore hx hb dd_X7_strokes_93, ?_⟩
  refine List.forall_mem_cons.mpr ⟨ok_iload hx hb dd_X7_strokes_95, ?_⟩
  refine List.forall_mem_cons.mpr ⟨ok_iconst hx hb dd_X7_strokes_97 (by decide), ?_⟩
  refine List.forall_mem_cons.mpr ⟨ok_icmp_gt hx hb dd_X7_strokes_98 (by decide), ?_⟩
  refine List.forall_mem_cons.mpr ⟨ok_aload_n hx hb rfl dd_X7_strokes_101, ?_⟩
  refine List.forall_mem_cons.mpr ⟨ok_getR (j := 3) hx hb hts zi_X7 hown hK zc_X7 (by decide) rfl (fun t fl h => by cases h; rfl) (hts _ wd_274) dd_X7_strokes_102, ?_⟩
  refine List.forall_mem_cons.mpr ⟨ok_iload_n hx hb rfl dd_X7_strokes_105, ?_⟩
  refine List.forall_mem_cons.mpr ⟨ok_iload hx hb dd_X7_strokes_106, ?_⟩
  refine List.forall_mem_cons.mpr ⟨ok_callVN (n := 2) zc_X6 rva_X6_firstOfRow C0 (h_X6_firstOfRow (d + 10) (by omega)) (by decide) wd_649 nd_646 wd_648 wd_40 wd_105 ⟨by decide +kernel, by decide +kernel, by decide +kernel⟩ dd_X7_strokes_108, ?_⟩
  refine List.forall_mem_cons.mpr ⟨ok_istore hx hb dd_X7_strokes_111, ?_⟩
  refine List.forall_mem_cons.mpr ⟨ok_iload hx hb dd_X7_strokes_113, ?_⟩
  refine List.forall_mem_cons.mpr ⟨ok_iconst hx hb dd_X7_strokes_115 (by decide), ?_⟩
  refine List.forall_mem_cons.mpr ⟨ok_icmp_eq hx hb dd_X7_strokes_116 (by decide), ?_⟩
  refine List.forall_mem_cons.mpr ⟨ok_iload hx hb dd_X7_strokes_119, ?_⟩
  refine List.forall_mem_cons.mpr ⟨ok_if_ne hx hb dd_X7_strokes_121 (by decide), ?_⟩
  refine List.forall_mem_cons.mpr ⟨ok_iload hx hb dd_X7_strokes_124, ?_⟩
  refine List.forall_mem_cons.mpr ⟨ok_goto hx hb dd_X7_strokes_126 (by decide), ?_⟩
  refine List.forall_mem_cons.mpr ⟨ok_iload hx hb dd_X7_strokes_129, ?_⟩
  refine List.forall_mem_cons.mpr ⟨ok_iret hx hb hr hlocks hQ dd_X7_strokes_131, ?_⟩
  refine List.forall_mem_cons.mpr ⟨ok_iinc hx hb dd_X7_strokes_132 (by decide), ?_⟩
  refine List.forall_mem_cons.mpr ⟨ok_goto hx hb dd_X7_strokes_135 (by decide), ?_⟩
  refine List.forall_mem_cons.mpr ⟨ok_iconst hx hb dd_X7_strokes_138 (by decide), ?_⟩
  refine List.forall_mem_cons.mpr ⟨ok_iret hx hb hr hlocks hQ dd_X7_strokes_139, ?_⟩
  exact fun _ h => absurd h List.not_mem_nil
set_option maxRecDepth 100000 in
theorem vc_X7_strokes_0 {kd : Nat → Nat} {K : zK} {X : zX} (hX : ∀ (n pc : Nat) (ls : zLS) (st : List zV) (M : zM), zrun (tb_X7_strokes kd K) [(95, [6])] n X pc ls st M → X pc ls st M) {g : Int32} {z : Int32} {y : Int32} {w : Int32} {M : zM} (hk0 : kd 0 = 1) (hk1 : kd (6 + 1) = 3) (hk2 : kd 6 = 6) (hk3 : kd 2 = 3) (hk4 : kd 1 = 2) (h : ∀ v1 : Int32, (v1 = zp (isT g.toInt)) → ((v1 = 0) → ∃ s2 : St, (RpX kd M s2) ∧ ∃ k2 : Nat, (k2 < 3 ∧ (-2 : Int32).toInt = -2 - (k2 : Int)) ∧ ∀ v2 : Int32, (v2 = (-2 : Int32)) → ∀ M2 : zM, (RpX kd M2 (sRf s2 k2)) → (fr9 M M2) → K (some (zI (v2))) M2) ∧ ((¬ v1 = 0) → ∀ v3 : Int32, (v3 = zp ((1 : Int32).toInt ≤ z.toInt ∧ z.toInt ≤ (2 : Int32).toInt)) → ((v3 = 0) → ∃ s4 : St, (RpX kd M s4) ∧ ∃ k4 : Nat, (k4 < 3 ∧ (-2 : Int32).toInt = -2 - (k4 : Int)) ∧ ∀ v4 : Int32, (v4 = (-2 : Int32)) → ∀ M4 : zM, (RpX kd M4 (sRf s4 k4)) → (fr9 M M4) → K (some (zI (v4))) M4) ∧ ((¬ v3 = 0) → ∀ v5 : Int32, (v5 = zp ((0 : Int32).toInt ≤ y.toInt ∧ y.toInt ≤ (99 : Int32).toInt)) → ((v5 = 0) → ∃ s6 : St, (RpX kd M s6) ∧ ∃ k6 : Nat, (k6 < 3 ∧ (-2 : Int32).toInt = -2 - (k6 : Int)) ∧ ∀ v6 : Int32, (v6 = (-2 : Int32)) → ∀ M6 : zM, (RpX kd M6 (sRf s6 k6)) → (fr9 M M6) → K (some (zI (v6))) M6) ∧ ((¬ v5 = 0) → ∀ v7 : Int32, (v7 = zp ((0 : Int32).toInt ≤ w.toInt ∧ w.toInt ≤ (1 : Int32).toInt)) → ((¬ v7 = 0) → (¬ 6 = 2) ∧ (¬ 6 + 1 = 2) ∧ ∃ a8 : Sk, (RpS (M.1 2) a8) ∧ (0 ≤ g.toInt ∧ g.toInt ≤ 4) ∧ (0 ≤ ((M.1 2 0 6) + y).toInt ∧ ((M.1 2 0 6) + y).toInt < 1000000) ∧ ∀ M8 : zM, (trF M 6 M8) → (RpR M8 6 a8 g.toInt ((M.1 2 0 6) + y).toInt) → ∃ a9 : Sk, ∃ g9 : Int, ∃ y9 : Int, (RpR M8 6 a9 g9 y9) ∧ ∀ v9 : Int32, (v9.toInt = sk_law a9 g9 y9) → ((¬ v9 = z) → X 95 [some (zR 0 0), some (zI (g)), some (zI (z)), some (zI (y)), some (zI (w)), some (zI ((1 : Int32))), none] [] M8) ∧ ((v9 = z) → ((¬ w = 0) → K (some (zI ((-1 : Int32)))) M8) ∧ ((w = 0) → K (some (zI ((0 : Int32)))) M8))) ∧ ((v7 = 0) → ∃ s10 : St, (RpX kd M s10) ∧ ∃ k10 : Nat, (k10 < 3 ∧ (-2 : Int32).toInt = -2 - (k10 : Int)) ∧ ∀ v10 : Int32, (v10 = (-2 : Int32)) → ∀ M10 : zM, (RpX kd M10 (sRf s10 k10)) → (fr9 M M10) → K (some (zI (v10))) M10))))) : X 0 [some (zR 0 0), some (zI (g)), some (zI (z)), some (zI (y)), some (zI (w)), none, none] [] M := hX 42 0 _ [] M (show ∀ v1 : Int32, (v1 = zp (isT g.toInt)) → ((v1 = 0) → (kd 0 = 1) ∧ ∃ s2 : St, (RpX kd M s2) ∧ ∃ k2 : Nat, (k2 < 3 ∧ (-2 : Int32).toInt = -2 - (k2 : Int)) ∧ ∀ v2 : Int32, (v2 = (-2 : Int32)) → ∀ M2 : zM, (RpX kd M2 (sRf s2 k2)) → (fr9 M M2) → K (some (zI (v2))) M2) ∧ ((¬ v1 = 0) → ∀ v3 : Int32, (v3 = zp ((1 : Int32).toInt ≤ z.toInt ∧ z.toInt ≤ (2 : Int32).toInt)) → ((v3 = 0) → (kd 0 = 1) ∧ ∃ s4 : St, (RpX kd M s4) ∧ ∃ k4 : Nat, (k4 < 3 ∧ (-2 : Int32).toInt = -2 - (k4 : Int)) ∧ ∀ v4 : Int32, (v4 = (-2 : Int32)) → ∀ M4 : zM, (RpX kd M4 (sRf s4 k4)) → (fr9 M M4) → K (some (zI (v4))) M4) ∧ ((¬ v3 = 0) → ∀ v5 : Int32, (v5 = zp ((0 : Int32).toInt ≤ y.toInt ∧ y.toInt ≤ (99 : Int32).toInt)) → ((v5 = 0) → (kd 0 = 1) ∧ ∃ s6 : St, (RpX kd M s6) ∧ ∃ k6 : Nat, (k6 < 3 ∧ (-2 : Int32).toInt = -2 - (k6 : Int)) ∧ ∀ v6 : Int32, (v6 = (-2 : Int32)) → ∀ M6 : zM, (RpX kd M6 (sRf s6 k6)) → (fr9 M M6) → K (some (zI (v6))) M6) ∧ ((¬ v5 = 0) → ∀ v7 : Int32, (v7 = zp ((0 : Int32).toInt ≤ w.toInt ∧ w.toInt ≤ (1 : Int32).toInt)) → ((¬ v7 = 0) → (kd 0 = 1) ∧ (kd 0 = 1) ∧ (kd 1 = 2) ∧ (kd 0 = 1) ∧ (kd 1 = 2) ∧ (kd 2 = 3) ∧ (kd 6 = 6) ∧ (kd (6 + 1) = 3) ∧ (kd 2 = 3) ∧ (¬ 6 = 2) ∧ (¬ 6 + 1 = 2) ∧ ∃ a8 : Sk, (RpS (M.1 2) a8) ∧ (0 ≤ g.toInt ∧ g.toInt ≤ 4) ∧ (0 ≤ ((M.1 2 0 6) + y).toInt ∧ ((M.1 2 0 6) + y).toInt < 1000000) ∧ ∀ M8 : zM, (trF M 6 M8) → (RpR M8 6 a8 g.toInt ((M.1 2 0 6) + y).toInt) → (kd 0 = 1) ∧ (kd 6 = 6) ∧ (kd (6 + 1) = 3) ∧ ∃ a9 : Sk, ∃ g9 : Int, ∃ y9 : Int, (RpR M8 6 a9 g9 y9) ∧ ∀ v9 : Int32, (v9.toInt = sk_law a9 g9 y9) → ((¬ v9 = z) → X 95 [some (zR 0 0), some (zI (g)), some (zI (z)), some (zI (y)), some (zI (w)), some (zI ((1 : Int32))), none] [] M8) ∧ ((v9 = z) → ((¬ w = 0) → K (some (zI ((-1 : Int32)))) M8) ∧ ((w = 0) → K (some (zI ((0 : Int32)))) M8))) ∧ ((v7 = 0) → (kd 0 = 1) ∧ ∃ s10 : St, (RpX kd M s10) ∧ ∃ k10 : Nat, (k10 < 3 ∧ (-2 : Int32).toInt = -2 - (k10 : Int)) ∧ ∀ v10 : Int32, (v10 = (-2 : Int32)) → ∀ M10 : zM, (RpX kd M10 (sRf s10 k10)) → (fr9 M M10) → K (some (zI (v10))) M10)))) from fun v1 => have h := h v1; fun q => have h := h q; ⟨fun q => have h := h.1 q; ⟨hk0, h.elim (fun s2 h => ⟨s2, ⟨h.1, have h := h.2; h.elim (fun k2 h => ⟨k2, ⟨h.1, have h := h.2; fun v2 => have h := h v2; fun q => have h := h q; fun M2 => have h := h M2; fun q => have h := h q; fun q => have h := h q; h⟩⟩)⟩⟩)⟩, fun q => have h := h.2 q; fun v3 => have h := h v3; fun q => have h := h q; ⟨fun q => have h := h.1 q; ⟨hk0, h.elim (fun s4 h => ⟨s4, ⟨h.1, have h := h.2; h.elim (fun k4 h => ⟨k4, ⟨h.1, have h := h.2; fun v4 => have h := h v4; fun q => have h := h q; fun M4 => have h := h M4; fun q => have h := h q; fun q => have h := h q; h⟩⟩)⟩⟩)⟩, fun q => have h := h.2 q; fun v5 => have h := h v5; fun q => have h := h q; ⟨fun q => have h := h.1 q; ⟨hk0, h.elim (fun s6 h => ⟨s6, ⟨h.1, have h := h.2; h.elim (fun k6 h => ⟨k6, ⟨h.1, have h := h.2; fun v6 => have h := h v6; fun q => have h := h q; fun M6 => have h := h M6; fun q => have h := h q; fun q => have h := h q; h⟩⟩)⟩⟩)⟩, fun q => have h := h.2 q; fun v7 => have h := h v7; fun q => have h := h q; ⟨fun q => have h := h.1 q; ⟨hk0, ⟨hk0, ⟨hk4, ⟨hk0, ⟨hk4, ⟨hk3, ⟨hk2, ⟨hk1, ⟨hk3, ⟨h.1, have h := h.2; ⟨h.1, have h := h.2; h.elim (fun a8 h => ⟨a8, ⟨h.1, have h := h.2; ⟨h.1, have h := h.2; ⟨h.1, have h := h.2; fun M8 => have h := h M8; fun q => have h := h q; fun q => have h := h q; ⟨hk0, ⟨hk2, ⟨hk1, h.elim (fun a9 h => ⟨a9, h.elim (fun g9 h => ⟨g9, h.elim (fun y9 h => ⟨y9, ⟨h.1, have h := h.2; fun v9 => have h := h v9; fun q => have h := h q; ⟨fun q => have h := h.1 q; h, fun q => have h := h.2 q; ⟨fun q => have h := h.1 q; h, fun q => have h := h.2 q; h⟩⟩⟩⟩)⟩)⟩)⟩⟩⟩⟩⟩⟩⟩)⟩⟩⟩⟩⟩⟩⟩⟩⟩⟩⟩, fun q => have h := h.2 q; ⟨hk0, h.elim (fun s10 h => ⟨s10, ⟨h.1, have h := h.2; h.elim (fun k10 h => ⟨k10, ⟨h.1, have h := h.2; fun v10 => have h := h v10; fun q => have h := h q; fun M10 => have h := h M10; fun q => have h := h q; fun q => have h := h q; h⟩⟩)⟩⟩)⟩⟩⟩⟩⟩)
set_option maxRecDepth 100000 in
theorem vc_X7_strokes_95 {kd : Nat → Nat} {K : zK} {X : zX} (hX : ∀ (n pc : Nat) (ls : zLS) (st : List zV) (M : zM), zrun (tb_X7_strokes kd K) [(95, [6])] n X pc ls st M → X pc ls st M) {g : Int32} {z : Int32} {y : Int32} {w : Int32} {n : Int32} {M : zM} (hk0 : kd (6 + 1) = 3) (hk1 : kd 6 = 6) (hk2 : kd 0 = 1) (h : (((2 : Int32) < n) → K (some (zI ((-1 : Int32)))) M) ∧ ((¬ (2 : Int32) < n) → ∃ a1 : Sk, ∃ g1 : Int, ∃ y1 : Int, (RpR M 6 a1 g1 y1) ∧ (n.toInt = 1 ∨ n.toInt = 2) ∧ (z.toInt = 1 ∨ z.toInt = 2) ∧ ∀ v1 : Int32, (isFst (fun w => sk_may a1 w && rowOk g1 y1 z.toInt (n.toInt.toNat - 1) (sk_do a1 w g1 (le12 z.toInt))) 20 v1.toInt) → ∀ M1 : zM, (trF M 6 M1) → (RpR M1 6 (a1) g1 y1) → ((v1 = (-1 : Int32)) → X 95 [some (zR 0 0), some (zI (g)), some (zI (z)), some (zI (y)), some (zI (w)), some (zI (n + 1)), none] [] M1) ∧ ((¬ v1 = (-1 : Int32)) → ((¬ w = 0) → K (some (zI (v1))) M1) ∧ ((w = 0) → K (some (zI (n))) M1)))) : X 95 [some (zR 0 0), some (zI (g)), some (zI (z)), some (zI (y)), some (zI (w)), some (zI (n)), none] [] M := hX 18 95 _ [] M (show (((2 : Int32) < n) → K (some (zI ((-1 : Int32)))) M) ∧ ((¬ (2 : Int32) < n) → (kd 0 = 1) ∧ (kd 6 = 6) ∧ (kd (6 + 1) = 3) ∧ ∃ a1 : Sk, ∃ g1 : Int, ∃ y1 : Int, (RpR M 6 a1 g1 y1) ∧ (n.toInt = 1 ∨ n.toInt = 2) ∧ (z.toInt = 1 ∨ z.toInt = 2) ∧ ∀ v1 : Int32, (isFst (fun w => sk_may a1 w && rowOk g1 y1 z.toInt (n.toInt.toNat - 1) (sk_do a1 w g1 (le12 z.toInt))) 20 v1.toInt) → ∀ M1 : zM, (trF M 6 M1) → (RpR M1 6 (a1) g1 y1) → ((v1 = (-1 : Int32)) → X 95 [some (zR 0 0), some (zI (g)), some (zI (z)), some (zI (y)), some (zI (w)), some (zI (n + 1)), none] [] M1) ∧ ((¬ v1 = (-1 : Int32)) → ((¬ w = 0) → K (some (zI (v1))) M1) ∧ ((w = 0) → K (some (zI (n))) M1))) from ⟨fun q => have h := h.1 q; h, fun q => have h := h.2 q; ⟨hk2, ⟨hk1, ⟨hk0, h.elim (fun a1 h => ⟨a1, h.elim (fun g1 h => ⟨g1, h.elim (fun y1 h => ⟨y1, ⟨h.1, have h := h.2; ⟨h.1, have h := h.2; ⟨h.1, have h := h.2; fun v1 => have h := h v1; fun q => have h := h q; fun M1 => have h := h M1; fun q => have h := h q; fun q => have h := h q; ⟨fun q => have h := h.1 q; h, fun q => have h := h.2 q; ⟨fun q => have h := h.1 q; h, fun q => have h := h.2 q; h⟩⟩⟩⟩⟩⟩)⟩)⟩)⟩⟩⟩⟩)
def sp_X7_parties : zSpec := fun kd as M K => match as with
  | [.inr (.inr (.inl (0, 0))), .inl g, .inl y, .inl n, .inl w] => (kd 0 = 1) ∧ (KdX kd) ∧ ∃ s : St, (RpX kd M s) ∧ ∀ v : Int32, (v.toInt = (ev_parties s g.toInt y.toInt n.toInt w.toInt).1) → ∀ M' : zM, (RpX kd M' (ev_parties s g.toInt y.toInt n.toInt w.toInt).2) → (fr9 M M') → K (some (.inl v)) M'
  | _ => False
theorem rv_X7_parties : zrv sp_X7_parties 1 4 := by
  intro kd as M K h
  unfold sp_X7_parties at h
  split at h
  · exact ⟨_, _, rfl, h.1⟩
  · exact h.elim
theorem dd_X7_parties_0 : decode cX7_parties 0 = .ok (.iload_n 1, 1) := by decide +kernel
theorem dd_X7_parties_1 : decode cX7_parties 1 = .ok (.invokestatic 70, 3) := by decide +kernel
theorem dd_X7_parties_4 : decode cX7_parties 4 = .ok (.ifCond .eq 32, 3) := by decide +kernel
theorem dd_X7_parties_7 : decode cX7_parties 7 = .ok (.iload_n 2, 1) := by decide +kernel
theorem dd_X7_parties_8 : decode cX7_parties 8 = .ok (.iconst 0, 1) := by decide +kernel
theorem dd_X7_parties_9 : decode cX7_parties 9 = .ok (.bipush 99, 2) := by decide +kernel
theorem dd_X7_parties_11 : decode cX7_parties 11 = .ok (.invokestatic 66, 3) := by decide +kernel
theorem dd_X7_parties_14 : decode cX7_parties 14 = .ok (.ifCond .eq 22, 3) := by decide +kernel
theorem dd_X7_parties_17 : decode cX7_parties 17 = .ok (.iload_n 3, 1) := by decide +kernel
theorem dd_X7_parties_18 : decode cX7_parties 18 = .ok (.iconst 1, 1) := by decide +kernel
theorem dd_X7_parties_19 : decode cX7_parties 19 = .ok (.iconst 3, 1) := by decide +kernel
theorem dd_X7_parties_20 : decode cX7_parties 20 = .ok (.invokestatic 66, 3) := by decide +kernel
theorem dd_X7_parties_23 : decode cX7_parties 23 = .ok (.ifCond .eq 13, 3) := by decide +kernel
theorem dd_X7_parties_26 : decode cX7_parties 26 = .ok (.iload 4, 2) := by decide +kernel
theorem dd_X7_parties_28 : decode cX7_parties 28 = .ok (.iconst 0, 1) := by decide +kernel
theorem dd_X7_parties_29 : decode cX7_parties 29 = .ok (.iconst 1, 1) := by decide +kernel
theorem dd_X7_parties_30 : decode cX7_parties 30 = .ok (.invokestatic 66, 3) := by decide +kernel
theorem dd_X7_parties_33 : decode cX7_parties 33 = .ok (.ifCond .ne 10, 3) := by decide +kernel
theorem dd_X7_parties_36 : decode cX7_parties 36 = .ok (.aload_n 0, 1) := by decide +kernel
theorem dd_X7_parties_37 : decode cX7_parties 37 = .ok (.bipush (-2), 2) := by decide +kernel
theorem dd_X7_parties_39 : decode cX7_parties 39 = .ok (.invokevirtual 73, 3) := by decide +kernel
theorem dd_X7_parties_42 : decode cX7_parties 42 = .ok (.ireturn, 1) := by decide +kernel
theorem dd_X7_parties_43 : decode cX7_parties 43 = .ok (.aload_n 0, 1) := by decide +kernel
theorem dd_X7_parties_44 : decode cX7_parties 44 = .ok (.getfield 30, 3) := by decide +kernel
theorem dd_X7_parties_47 : decode cX7_parties 47 = .ok (.aload_n 0, 1) := by decide +kernel
theorem dd_X7_parties_48 : decode cX7_parties 48 = .ok (.getfield 12, 3) := by decide +kernel
theorem dd_X7_parties_51 : decode cX7_parties 51 = .ok (.getfield 52, 3) := by decide +kernel
theorem dd_X7_parties_54 : decode cX7_parties 54 = .ok (.iload_n 1, 1) := by decide +kernel
theorem dd_X7_parties_55 : decode cX7_parties 55 = .ok (.aload_n 0, 1) := by decide +kernel
theorem dd_X7_parties_56 : decode cX7_parties 56 = .ok (.getfield 12, 3) := by decide +kernel
theorem dd_X7_parties_59 : decode cX7_parties 59 = .ok (.getfield 52, 3) := by decide +kernel
theorem dd_X7_parties_62 : decode cX7_parties 62 = .ok (.getfield 100, 3) := by decide +kernel
theorem dd_X7_parties_65 : decode cX7_parties 65 = .ok (.iload_n 2, 1) := by decide +kernel
theorem dd_X7_parties_66 : decode cX7_parties 66 = .ok (.iadd, 1) := by decide +kernel
theorem dd_X7_parties_67 : decode cX7_parties 67 = .ok (.invokevirtual 173, 3) := by decide +kernel
theorem dd_X7_parties_70 : decode cX7_parties 70 = .ok (.aload_n 0, 1) := by decide +kernel
theorem dd_X7_parties_71 : decode cX7_parties 71 = .ok (.getfield 30, 3) := by decide +kernel
theorem dd_X7_parties_74 : decode cX7_parties 74 = .ok (.iload_n 3, 1) := by decide +kernel
theorem dd_X7_parties_75 : decode cX7_parties 75 = .ok (.iconst 1, 1) := by decide +kernel
theorem dd_X7_parties_76 : decode cX7_parties 76 = .ok (.invokevirtual 182, 3) := by decide +kernel
theorem dd_X7_parties_79 : decode cX7_parties 79 = .ok (.istore 5, 2) := by decide +kernel
theorem dd_X7_parties_81 : decode cX7_parties 81 = .ok (.iload 4, 2) := by decide +kernel
theorem dd_X7_parties_83 : decode cX7_parties 83 = .ok (.ifCond .ne 8, 3) := by decide +kernel
theorem dd_X7_parties_86 : decode cX7_parties 86 = .ok (.iload 5, 2) := by decide +kernel
theorem dd_X7_parties_88 : decode cX7_parties 88 = .ok (.goto 10, 3) := by decide +kernel
theorem dd_X7_parties_91 : decode cX7_parties 91 = .ok (.aload_n 0, 1) := by decide +kernel
theorem dd_X7_parties_92 : decode cX7_parties 92 = .ok (.getfield 30, 3) := by decide +kernel
theorem dd_X7_parties_95 : decode cX7_parties 95 = .ok (.getfield 185, 3) := by decide +kernel
theorem dd_X7_parties_98 : decode cX7_parties 98 = .ok (.ireturn, 1) := by decide +kernel
def tb_X7_parties (kd : Nat → Nat) (K : zK) : zTab := [(0, zt_iload 1 1), (1, zt_call kd sp_X7_isThing 1 4), (4, zt_if (fun x => x = 0) (fun x => ¬ x = 0) 36 7), (7, zt_iload 2 8), (8, zt_const (zI 0) 9), (9, zt_const (zI 99) 11), (11, zt_call kd sp_X7_within 3 14), (14, zt_if (fun x => x = 0) (fun x => ¬ x = 0) 36 17), (17, zt_iload 3 18), (18, zt_const (zI 1) 19), (19, zt_const (zI 3) 20), (20, zt_call kd sp_X7_within 3 23), (23, zt_if (fun x => x = 0) (fun x => ¬ x = 0) 36 26), (26, zt_iload 4 28), (28, zt_const (zI 0) 29), (29, zt_const (zI 1) 30), (30, zt_call kd sp_X7_within 3 33), (33, zt_if (fun x => ¬ x = 0) (fun x => x = 0) 43 36), (36, zt_aload 0 37), (37, zt_const (zI (-2)) 39), (39, zt_call kd sp_X7_refuse 2 42), (42, zt_iret K), (43, zt_aload 0 44), (44, zt_getR kd 1 6 0 47), (47, zt_aload 0 48), (48, zt_getR kd 1 1 0 51), (51, zt_getR kd 2 1 0 54), (54, zt_iload 1 55), (55, zt_aload 0 56), (56, zt_getR kd 1 1 0 59), (59, zt_getR kd 2 1 0 62), (62, zt_getI kd 3 6 65), (65, zt_iload 2 66), (66, zt_bin (fun x y => x + y) 67), (67, zt_call kd sp_X6_begin 4 70), (70, zt_aload 0 71), (71, zt_getR kd 1 6 0 74), (74, zt_iload 3 75), (75, zt_const (zI 1) 76), (76, zt_call kd spa_X6_worth 3 79), (79, zt_istore 5 81), (81, zt_iload 4 83), (83, zt_if (fun x => ¬ x = 0) (fun x => x = 0) 91 86), (86, zt_iload 5 88), (88, zt_goto 98), (91, zt_aload 0 92), (92, zt_getR kd 1 6 0 95), (95, zt_getI kd 6 4 98), (98, zt_iret K)]
set_option maxRecDepth 20000 in
theorem tk_X7_parties (d : Nat) (h_X7_isThing : zMS 1 yX7_isThing cX7_isThing 1 (some .boolean) sp_X7_isThing) (h_X7_within : zMS 1 yX7_within cX7_within 3 (some .boolean) sp_X7_within) (h_X7_refuse : zMS 2 yX7_refuse cX7_refuse 3 (some .int) sp_X7_refuse) (h_X6_begin : zMS 5 yX6_begin cX6_begin 5 none sp_X6_begin) (h_X6_worth : zMS 10 yX6_worth cX6_worth 8 (some .int) spa_X6_worth) : zTrue RX7 cX7_parties 6 (some .int) (d + 11) (fun kd K => tb_X7_parties kd K) := by
  intro p l e R s m args below meth c D cy A ad bl Qm K C0 hr hlocks hQ
  obtain ⟨hx, hb, hml, hown, hts, hK, hD, hA0, hN, hE, ⟨hR1, hR2⟩, hc1, hc2⟩ := id C0
  unfold tb_X7_parties
  refine List.forall_mem_cons.mpr ⟨ok_iload_n hx hb rfl dd_X7_parties_0, ?_⟩
  refine List.forall_mem_cons.mpr ⟨ok_callS (n := 1) C0 (h_X7_isThing (d + 10) (by omega)) (by decide) wd_324 wd_322 wd_323 wd_100 ⟨by decide +kernel, by decide +kernel, by decide +kernel⟩ dd_X7_parties_1, ?_⟩
  refine List.forall_mem_cons.mpr ⟨ok_if_eq hx hb dd_X7_parties_4 (by decide), ?_⟩
  refine List.forall_mem_cons.mpr ⟨ok_iload_n hx hb rfl dd_X7_parties_7, ?_⟩
  refine List.forall_mem_cons.mpr ⟨ok_iconst hx hb dd_X7_parties_8 (by decide), ?_⟩
  refine List.forall_mem_cons.mpr ⟨ok_bipush hx hb dd_X7_parties_9 (by decide), ?_⟩
  refine List.forall_mem_cons.mpr ⟨ok_callS (n := 3) C0 (h_X7_within (d + 10) (by omega)) (by decide) wd_321 wd_319 wd_320 wd_100 ⟨by decide +kernel, by decide +kernel, by decide +kernel⟩ dd_X7_parties_11, ?_⟩
  refine List.forall_mem_cons.mpr ⟨ok_if_eq hx hb dd_X7_parties_14 (by decide), ?_⟩
  refine List.forall_mem_cons.mpr ⟨ok_iload_n hx hb rfl dd_X7_parties_17, ?_⟩
  refine List.forall_mem_cons.mpr ⟨ok_iconst hx hb dd_X7_parties_18 (by decide), ?_⟩
  refine List.forall_mem_cons.mpr ⟨ok_iconst hx hb dd_X7_parties_19 (by decide), ?_⟩
  refine List.forall_mem_cons.mpr ⟨ok_callS (n := 3) C0 (h_X7_within (d + 10) (by omega)) (by decide) wd_321 wd_319 wd_320 wd_100 ⟨by decide +kernel, by decide +kernel, by decide +kernel⟩ dd_X7_parties_20, ?_⟩
  refine List.forall_mem_cons.mpr ⟨ok_if_eq hx hb dd_X7_parties_23 (by decide), ?_⟩
  refine List.forall_mem_cons.mpr ⟨ok_iload hx hb dd_X7_parties_26, ?_⟩
  refine List.forall_mem_cons.mpr ⟨ok_iconst hx hb dd_X7_parties_28 (by decide), ?_⟩
  refine List.forall_mem_cons.mpr ⟨ok_iconst hx hb dd_X7_parties_29 (by decide), ?_⟩
  refine List.forall_mem_cons.mpr ⟨ok_callS (n := 3) C0 (h_X7_within (d + 10) (by omega)) (by decide) wd_321 wd_319 wd_320 wd_100 ⟨by decide +kernel, by decide +kernel, by decide +kernel⟩ dd_X7_parties_30, ?_⟩
  refine List.forall_mem_cons.mpr ⟨ok_if_ne hx hb dd_X7_parties_33 (by decide), ?_⟩
  refine List.forall_mem_cons.mpr ⟨ok_aload_n hx hb rfl dd_X7_parties_36, ?_⟩
  refine List.forall_mem_cons.mpr ⟨ok_bipush hx hb dd_X7_parties_37 (by decide), ?_⟩
  refine List.forall_mem_cons.mpr ⟨ok_callV (n := 1) zc_X7 rv_X7_refuse C0 (h_X7_refuse (d + 10) (by omega)) (by decide) wd_328 wd_325 wd_327 wd_3 wd_100 ⟨rfl, by decide +kernel, by decide +kernel, by decide +kernel⟩ dd_X7_parties_39, ?_⟩
  refine List.forall_mem_cons.mpr ⟨ok_iret hx hb hr hlocks hQ dd_X7_parties_42, ?_⟩
  refine List.forall_mem_cons.mpr ⟨ok_aload_n hx hb rfl dd_X7_parties_43, ?_⟩
  refine List.forall_mem_cons.mpr ⟨ok_getR (j := 3) hx hb hts zi_X7 hown hK zc_X7 (by decide) rfl (fun t fl h => by cases h; rfl) (hts _ wd_274) dd_X7_parties_44, ?_⟩
  refine List.forall_mem_cons.mpr ⟨ok_aload_n hx hb rfl dd_X7_parties_47, ?_⟩
  refine List.forall_mem_cons.mpr ⟨ok_getR (j := 0) hx hb hts zi_X7 hown hK zc_X7 (by decide) rfl (fun t fl h => by cases h; rfl) (hts _ wd_271) dd_X7_parties_48, ?_⟩
  refine List.forall_mem_cons.mpr ⟨ok_getRN (j := 0) hx hb hts zi_X2 hown hK zc_X2 (by decide) rfl (fun t fl h => by cases h; rfl) (va_Nw.use rfl (hN _ nd_201)) dd_X7_parties_51, ?_⟩
  refine List.forall_mem_cons.mpr ⟨ok_iload_n hx hb rfl dd_X7_parties_54, ?_⟩
  refine List.forall_mem_cons.mpr ⟨ok_aload_n hx hb rfl dd_X7_parties_55, ?_⟩
  refine List.forall_mem_cons.mpr ⟨ok_getR (j := 0) hx hb hts zi_X7 hown hK zc_X7 (by decide) rfl (fun t fl h => by cases h; rfl) (hts _ wd_271) dd_X7_parties_56, ?_⟩
  refine List.forall_mem_cons.mpr ⟨ok_getRN (j := 0) hx hb hts zi_X2 hown hK zc_X2 (by decide) rfl (fun t fl h => by cases h; rfl) (va_Nw.use rfl (hN _ nd_201)) dd_X7_parties_59, ?_⟩
  refine List.forall_mem_cons.mpr ⟨ok_getIN (j := 6) hx hb hts zi_X3 hown hK zc_X3 (by decide) rfl (fun t fl h => by cases h; rfl) (va_Nw.use rfl (hN _ nd_144)) dd_X7_parties_62, ?_⟩
  refine List.forall_mem_cons.mpr ⟨ok_iload_n hx hb rfl dd_X7_parties_65, ?_⟩
  refine List.forall_mem_cons.mpr ⟨ok_iadd hx hb dd_X7_parties_66, ?_⟩
  refine List.forall_mem_cons.mpr ⟨ok_callVN (n := 3) zc_X6 rv_X6_begin C0 (h_X6_begin (d + 10) (by omega)) (by decide) wd_639 nd_636 wd_638 wd_38 wd_105 ⟨by decide +kernel, by decide +kernel, by decide +kernel⟩ dd_X7_parties_67, ?_⟩
  refine List.forall_mem_cons.mpr ⟨ok_aload_n hx hb rfl dd_X7_parties_70, ?_⟩
  refine List.forall_mem_cons.mpr ⟨ok_getR (j := 3) hx hb hts zi_X7 hown hK zc_X7 (by decide) rfl (fun t fl h => by cases h; rfl) (hts _ wd_274) dd_X7_parties_71, ?_⟩
  refine List.forall_mem_cons.mpr ⟨ok_iload_n hx hb rfl dd_X7_parties_74, ?_⟩
  refine List.forall_mem_cons.mpr ⟨ok_iconst hx hb dd_X7_parties_75 (by decide), ?_⟩
  refine List.forall_mem_cons.mpr ⟨ok_callVN (n := 2) zc_X6 rva_X6_worth C0 (h_X6_worth (d + 10) (by omega)) (by decide) wd_682 nd_679 wd_681 wd_45 wd_105 ⟨by decide +kernel, by decide +kernel, by decide +kernel⟩ dd_X7_parties_76, ?_⟩
  refine List.forall_mem_cons.mpr ⟨ok_istore hx hb dd_X7_parties_79, ?_⟩
  refine List.forall_mem_cons.mpr ⟨ok_iload hx hb dd_X7_parties_81, ?_⟩
  refine List.forall_mem_cons.mpr ⟨ok_if_ne hx hb dd_X7_parties_83 (by decide), ?_⟩
  refine List.forall_mem_cons.mpr ⟨ok_iload hx hb dd_X7_parties_86, ?_⟩
  refine List.forall_mem_cons.mpr ⟨ok_goto hx hb dd_X7_parties_88 (by decide), ?_⟩
  refine List.forall_mem_cons.mpr ⟨ok_aload_n hx hb rfl dd_X7_parties_91, ?_⟩
  refine List.forall_mem_cons.mpr ⟨ok_getR (j := 3) hx hb hts zi_X7 hown hK zc_X7 (by decide) rfl (fun t fl h => by cases h; rfl) (hts _ wd_274) dd_X7_parties_92, ?_⟩
  refine List.forall_mem_cons.mpr ⟨ok_getIN (j := 4) hx hb hts zi_X6 hown hK zc_X6 (by decide) rfl (fun t fl h => by cases h; rfl) (va_Nw.use rfl (hN _ nd_229)) dd_X7_parties_95, ?_⟩
  refine List.forall_mem_cons.mpr ⟨ok_iret hx hb hr hlocks hQ dd_X7_parties_98, ?_⟩
  exact fun _ h => absurd h List.not_mem_nil
set_option maxRecDepth 100000 in
theorem vc_X7_parties_0 {kd : Nat → Nat} {K : zK} {X : zX} (hX : ∀ (n pc : Nat) (ls : zLS) (st : List zV) (M : zM), zrun (tb_X7_parties kd K) [] n X pc ls st M → X pc ls st M) {g : Int32} {y : Int32} {n : Int32} {w : Int32} {M : zM} (hk0 : kd 0 = 1) (hk1 : kd 6 = 6) (hk2 : kd (6 + 1) = 3) (hk3 : kd 2 = 3) (hk4 : kd 1 = 2) (h : ∀ v1 : Int32, (v1 = zp (isT g.toInt)) → ((v1 = 0) → ∃ s2 : St, (RpX kd M s2) ∧ ∃ k2 : Nat, (k2 < 3 ∧ (-2 : Int32).toInt = -2 - (k2 : Int)) ∧ ∀ v2 : Int32, (v2 = (-2 : Int32)) → ∀ M2 : zM, (RpX kd M2 (sRf s2 k2)) → (fr9 M M2) → K (some (zI (v2))) M2) ∧ ((¬ v1 = 0) → ∀ v3 : Int32, (v3 = zp ((0 : Int32).toInt ≤ y.toInt ∧ y.toInt ≤ (99 : Int32).toInt)) → ((v3 = 0) → ∃ s4 : St, (RpX kd M s4) ∧ ∃ k4 : Nat, (k4 < 3 ∧ (-2 : Int32).toInt = -2 - (k4 : Int)) ∧ ∀ v4 : Int32, (v4 = (-2 : Int32)) → ∀ M4 : zM, (RpX kd M4 (sRf s4 k4)) → (fr9 M M4) → K (some (zI (v4))) M4) ∧ ((¬ v3 = 0) → ∀ v5 : Int32, (v5 = zp ((1 : Int32).toInt ≤ n.toInt ∧ n.toInt ≤ (3 : Int32).toInt)) → ((v5 = 0) → ∃ s6 : St, (RpX kd M s6) ∧ ∃ k6 : Nat, (k6 < 3 ∧ (-2 : Int32).toInt = -2 - (k6 : Int)) ∧ ∀ v6 : Int32, (v6 = (-2 : Int32)) → ∀ M6 : zM, (RpX kd M6 (sRf s6 k6)) → (fr9 M M6) → K (some (zI (v6))) M6) ∧ ((¬ v5 = 0) → ∀ v7 : Int32, (v7 = zp ((0 : Int32).toInt ≤ w.toInt ∧ w.toInt ≤ (1 : Int32).toInt)) → ((¬ v7 = 0) → (¬ 6 = 2) ∧ (¬ 6 + 1 = 2) ∧ ∃ a8 : Sk, (RpS (M.1 2) a8) ∧ (0 ≤ g.toInt ∧ g.toInt ≤ 4) ∧ (0 ≤ ((M.1 2 0 6) + y).toInt ∧ ((M.1 2 0 6) + y).toInt < 1000000) ∧ ∀ M8 : zM, (trF M 6 M8) → (RpR M8 6 a8 g.toInt ((M.1 2 0 6) + y).toInt) → ∃ a9 : Sk, ∃ g9 : Int, ∃ y9 : Int, (RpR M8 6 a9 g9 y9) ∧ (0 ≤ n.toInt ∧ n.toInt ≤ 3) ∧ ((1 : Int32).toInt = 0 ∨ (1 : Int32).toInt = 1) ∧ ∀ v9 : Int32, (v9.toInt = wv g9 y9 n.toInt.toNat (1 : Int32).toInt a9) → ∀ M9 : zM, (trF M8 6 M9) → (RpR M9 6 (a9) g9 y9) → (0 < n.toInt → (M9.1 6 0 4).toInt = wc g9 y9 (n.toInt.toNat - 1) (1 : Int32).toInt a9) → ((¬ w = 0) → K (some (zI (M9.1 6 0 4))) M9) ∧ ((w = 0) → K (some (zI (v9))) M9)) ∧ ((v7 = 0) → ∃ s10 : St, (RpX kd M s10) ∧ ∃ k10 : Nat, (k10 < 3 ∧ (-2 : Int32).toInt = -2 - (k10 : Int)) ∧ ∀ v10 : Int32, (v10 = (-2 : Int32)) → ∀ M10 : zM, (RpX kd M10 (sRf s10 k10)) → (fr9 M M10) → K (some (zI (v10))) M10))))) : X 0 [some (zR 0 0), some (zI (g)), some (zI (y)), some (zI (n)), some (zI (w)), none] [] M := hX 44 0 _ [] M (show ∀ v1 : Int32, (v1 = zp (isT g.toInt)) → ((v1 = 0) → (kd 0 = 1) ∧ ∃ s2 : St, (RpX kd M s2) ∧ ∃ k2 : Nat, (k2 < 3 ∧ (-2 : Int32).toInt = -2 - (k2 : Int)) ∧ ∀ v2 : Int32, (v2 = (-2 : Int32)) → ∀ M2 : zM, (RpX kd M2 (sRf s2 k2)) → (fr9 M M2) → K (some (zI (v2))) M2) ∧ ((¬ v1 = 0) → ∀ v3 : Int32, (v3 = zp ((0 : Int32).toInt ≤ y.toInt ∧ y.toInt ≤ (99 : Int32).toInt)) → ((v3 = 0) → (kd 0 = 1) ∧ ∃ s4 : St, (RpX kd M s4) ∧ ∃ k4 : Nat, (k4 < 3 ∧ (-2 : Int32).toInt = -2 - (k4 : Int)) ∧ ∀ v4 : Int32, (v4 = (-2 : Int32)) → ∀ M4 : zM, (RpX kd M4 (sRf s4 k4)) → (fr9 M M4) → K (some (zI (v4))) M4) ∧ ((¬ v3 = 0) → ∀ v5 : Int32, (v5 = zp ((1 : Int32).toInt ≤ n.toInt ∧ n.toInt ≤ (3 : Int32).toInt)) → ((v5 = 0) → (kd 0 = 1) ∧ ∃ s6 : St, (RpX kd M s6) ∧ ∃ k6 : Nat, (k6 < 3 ∧ (-2 : Int32).toInt = -2 - (k6 : Int)) ∧ ∀ v6 : Int32, (v6 = (-2 : Int32)) → ∀ M6 : zM, (RpX kd M6 (sRf s6 k6)) → (fr9 M M6) → K (some (zI (v6))) M6) ∧ ((¬ v5 = 0) → ∀ v7 : Int32, (v7 = zp ((0 : Int32).toInt ≤ w.toInt ∧ w.toInt ≤ (1 : Int32).toInt)) → ((¬ v7 = 0) → (kd 0 = 1) ∧ (kd 0 = 1) ∧ (kd 1 = 2) ∧ (kd 0 = 1) ∧ (kd 1 = 2) ∧ (kd 2 = 3) ∧ (kd 6 = 6) ∧ (kd (6 + 1) = 3) ∧ (kd 2 = 3) ∧ (¬ 6 = 2) ∧ (¬ 6 + 1 = 2) ∧ ∃ a8 : Sk, (RpS (M.1 2) a8) ∧ (0 ≤ g.toInt ∧ g.toInt ≤ 4) ∧ (0 ≤ ((M.1 2 0 6) + y).toInt ∧ ((M.1 2 0 6) + y).toInt < 1000000) ∧ ∀ M8 : zM, (trF M 6 M8) → (RpR M8 6 a8 g.toInt ((M.1 2 0 6) + y).toInt) → (kd 0 = 1) ∧ (kd 6 = 6) ∧ (kd (6 + 1) = 3) ∧ ∃ a9 : Sk, ∃ g9 : Int, ∃ y9 : Int, (RpR M8 6 a9 g9 y9) ∧ (0 ≤ n.toInt ∧ n.toInt ≤ 3) ∧ ((1 : Int32).toInt = 0 ∨ (1 : Int32).toInt = 1) ∧ ∀ v9 : Int32, (v9.toInt = wv g9 y9 n.toInt.toNat (1 : Int32).toInt a9) → ∀ M9 : zM, (trF M8 6 M9) → (RpR M9 6 (a9) g9 y9) → (0 < n.toInt → (M9.1 6 0 4).toInt = wc g9 y9 (n.toInt.toNat - 1) (1 : Int32).toInt a9) → ((¬ w = 0) → (kd 0 = 1) ∧ (kd 6 = 6) ∧ K (some (zI (M9.1 6 0 4))) M9) ∧ ((w = 0) → K (some (zI (v9))) M9)) ∧ ((v7 = 0) → (kd 0 = 1) ∧ ∃ s10 : St, (RpX kd M s10) ∧ ∃ k10 : Nat, (k10 < 3 ∧ (-2 : Int32).toInt = -2 - (k10 : Int)) ∧ ∀ v10 : Int32, (v10 = (-2 : Int32)) → ∀ M10 : zM, (RpX kd M10 (sRf s10 k10)) → (fr9 M M10) → K (some (zI (v10))) M10)))) from fun v1 => have h := h v1; fun q => have h := h q; ⟨fun q => have h := h.1 q; ⟨hk0, h.elim (fun s2 h => ⟨s2, ⟨h.1, have h := h.2; h.elim (fun k2 h => ⟨k2, ⟨h.1, have h := h.2; fun v2 => have h := h v2; fun q => have h := h q; fun M2 => have h := h M2; fun q => have h := h q; fun q => have h := h q; h⟩⟩)⟩⟩)⟩, fun q => have h := h.2 q; fun v3 => have h := h v3; fun q => have h := h q; ⟨fun q => have h := h.1 q; ⟨hk0, h.elim (fun s4 h => ⟨s4, ⟨h.1, have h := h.2; h.elim (fun k4 h => ⟨k4, ⟨h.1, have h := h.2; fun v4 => have h := h v4; fun q => have h := h q; fun M4 => have h := h M4; fun q => have h := h q; fun q => have h := h q; h⟩⟩)⟩⟩)⟩, fun q => have h := h.2 q; fun v5 => have h := h v5; fun q => have h := h q; ⟨fun q => have h := h.1 q; ⟨hk0, h.elim (fun s6 h => ⟨s6, ⟨h.1, have h := h.2; h.elim (fun k6 h => ⟨k6, ⟨h.1, have h := h.2; fun v6 => have h := h v6; fun q => have h := h q; fun M6 => have h := h M6; fun q => have h := h q; fun q => have h := h q; h⟩⟩)⟩⟩)⟩, fun q => have h := h.2 q; fun v7 => have h := h v7; fun q => have h := h q; ⟨fun q => have h := h.1 q; ⟨hk0, ⟨hk0, ⟨hk4, ⟨hk0, ⟨hk4, ⟨hk3, ⟨hk1, ⟨hk2, ⟨hk3, ⟨h.1, have h := h.2; ⟨h.1, have h := h.2; h.elim (fun a8 h => ⟨a8, ⟨h.1, have h := h.2; ⟨h.1, have h := h.2; ⟨h.1, have h := h.2; fun M8 => have h := h M8; fun q => have h := h q; fun q => have h := h q; ⟨hk0, ⟨hk1, ⟨hk2, h.elim (fun a9 h => ⟨a9, h.elim (fun g9 h => ⟨g9, h.elim (fun y9 h => ⟨y9, ⟨h.1, have h := h.2; ⟨h.1, have h := h.2; ⟨h.1, have h := h.2; fun v9 => have h := h v9; fun q => have h := h q; fun M9 => have h := h M9; fun q => have h := h q; fun q => have h := h q; fun q => have h := h q; ⟨fun q => have h := h.1 q; ⟨hk0, ⟨hk1, h⟩⟩, fun q => have h := h.2 q; h⟩⟩⟩⟩⟩)⟩)⟩)⟩⟩⟩⟩⟩⟩⟩)⟩⟩⟩⟩⟩⟩⟩⟩⟩⟩⟩, fun q => have h := h.2 q; ⟨hk0, h.elim (fun s10 h => ⟨s10, ⟨h.1, have h := h.2; h.elim (fun k10 h => ⟨k10, ⟨h.1, have h := h.2; fun v10 => have h := h v10; fun q => have h := h q; fun M10 => have h := h M10; fun q => have h := h q; fun q => have h := h q; h⟩⟩)⟩⟩)⟩⟩⟩⟩⟩)
def sp_X7_part : zSpec := fun kd as M K => match as with
  | [.inr (.inr (.inl (0, 0))), .inl w] => (kd 0 = 1) ∧ (KdX kd) ∧ ∃ s : St, (RpX kd M s) ∧ ∀ v : Int64, (v.toInt = (ev_part s w.toInt).1) → ∀ M' : zM, (RpX kd M' (ev_part s w.toInt).2) → (fr9 M M') → K (some (.inr (.inl v))) M'
  | _ => False
theorem rv_X7_part : zrv sp_X7_part 1 1 := by
  intro kd as M K h
  unfold sp_X7_part at h
  split at h
  · exact ⟨_, _, rfl, h.1⟩
  · exact h.elim
theorem dd_X7_part_0 : decode cX7_part 0 = .ok (.iload_n 1, 1) := by decide +kernel
theorem dd_X7_part_1 : decode cX7_part 1 = .ok (.iconst 0, 1) := by decide +kernel
theorem dd_X7_part_2 : decode cX7_part 2 = .ok (.iconst 1, 1) := by decide +kernel
theorem dd_X7_part_3 : decode cX7_part 3 = .ok (.invokestatic 66, 3) := by decide +kernel
theorem dd_X7_part_6 : decode cX7_part 6 = .ok (.ifCond .ne 11, 3) := by decide +kernel
theorem dd_X7_part_9 : decode cX7_part 9 = .ok (.aload_n 0, 1) := by decide +kernel
theorem dd_X7_part_10 : decode cX7_part 10 = .ok (.bipush (-2), 2) := by decide +kernel
theorem dd_X7_part_12 : decode cX7_part 12 = .ok (.invokevirtual 73, 3) := by decide +kernel
theorem dd_X7_part_15 : decode cX7_part 15 = .ok (.i2l, 1) := by decide +kernel
theorem dd_X7_part_16 : decode cX7_part 16 = .ok (.lreturn, 1) := by decide +kernel
theorem dd_X7_part_17 : decode cX7_part 17 = .ok (.iload_n 1, 1) := by decide +kernel
theorem dd_X7_part_18 : decode cX7_part 18 = .ok (.ifCond .ne 10, 3) := by decide +kernel
theorem dd_X7_part_21 : decode cX7_part 21 = .ok (.aload_n 0, 1) := by decide +kernel
theorem dd_X7_part_22 : decode cX7_part 22 = .ok (.getfield 45, 3) := by decide +kernel
theorem dd_X7_part_25 : decode cX7_part 25 = .ok (.goto 7, 3) := by decide +kernel
theorem dd_X7_part_28 : decode cX7_part 28 = .ok (.aload_n 0, 1) := by decide +kernel
theorem dd_X7_part_29 : decode cX7_part 29 = .ok (.getfield 49, 3) := by decide +kernel
theorem dd_X7_part_32 : decode cX7_part 32 = .ok (.lreturn, 1) := by decide +kernel
def tb_X7_part (kd : Nat → Nat) (K : zK) : zTab := [(0, zt_iload 1 1), (1, zt_const (zI 0) 2), (2, zt_const (zI 1) 3), (3, zt_call kd sp_X7_within 3 6), (6, zt_if (fun x => ¬ x = 0) (fun x => x = 0) 17 9), (9, zt_aload 0 10), (10, zt_const (zI (-2)) 12), (12, zt_call kd sp_X7_refuse 2 15), (15, zt_un (fun x => zL x.toInt64) 16), (16, zt_lret K), (17, zt_iload 1 18), (18, zt_if (fun x => ¬ x = 0) (fun x => x = 0) 28 21), (21, zt_aload 0 22), (22, zt_getL kd 1 6 25), (25, zt_goto 32), (28, zt_aload 0 29), (29, zt_getL kd 1 7 32), (32, zt_lret K)]
set_option maxRecDepth 20000 in
theorem tk_X7_part (d : Nat) (h_X7_within : zMS 1 yX7_within cX7_within 3 (some .boolean) sp_X7_within) (h_X7_refuse : zMS 2 yX7_refuse cX7_refuse 3 (some .int) sp_X7_refuse) : zTrue RX7 cX7_part 2 (some .long) (d + 3) (fun kd K => tb_X7_part kd K) := by
  intro p l e R s m args below meth c D cy A ad bl Qm K C0 hr hlocks hQ
  obtain ⟨hx, hb, hml, hown, hts, hK, hD, hA0, hN, hE, ⟨hR1, hR2⟩, hc1, hc2⟩ := id C0
  unfold tb_X7_part
  refine List.forall_mem_cons.mpr ⟨ok_iload_n hx hb rfl dd_X7_part_0, ?_⟩
  refine List.forall_mem_cons.mpr ⟨ok_iconst hx hb dd_X7_part_1 (by decide), ?_⟩
  refine List.forall_mem_cons.mpr ⟨ok_iconst hx hb dd_X7_part_2 (by decide), ?_⟩
  refine List.forall_mem_cons.mpr ⟨ok_callS (n := 3) C0 (h_X7_within (d + 2) (by omega)) (by decide) wd_321 wd_319 wd_320 wd_100 ⟨by decide +kernel, by decide +kernel, by decide +kernel⟩ dd_X7_part_3, ?_⟩
  refine List.forall_mem_cons.mpr ⟨ok_if_ne hx hb dd_X7_part_6 (by decide), ?_⟩
  refine List.forall_mem_cons.mpr ⟨ok_aload_n hx hb rfl dd_X7_part_9, ?_⟩
  refine List.forall_mem_cons.mpr ⟨ok_bipush hx hb dd_X7_part_10 (by decide), ?_⟩
  refine List.forall_mem_cons.mpr ⟨ok_callV (n := 1) zc_X7 rv_X7_refuse C0 (h_X7_refuse (d + 2) (by omega)) (by decide) wd_328 wd_325 wd_327 wd_3 wd_100 ⟨rfl, by decide +kernel, by decide +kernel, by decide +kernel⟩ dd_X7_part_12, ?_⟩
  refine List.forall_mem_cons.mpr ⟨ok_i2l hx hb dd_X7_part_15, ?_⟩
  refine List.forall_mem_cons.mpr ⟨ok_lret hx hb hr hlocks hQ dd_X7_part_16, ?_⟩
  refine List.forall_mem_cons.mpr ⟨ok_iload_n hx hb rfl dd_X7_part_17, ?_⟩
  refine List.forall_mem_cons.mpr ⟨ok_if_ne hx hb dd_X7_part_18 (by decide), ?_⟩
  refine List.forall_mem_cons.mpr ⟨ok_aload_n hx hb rfl dd_X7_part_21, ?_⟩
  refine List.forall_mem_cons.mpr ⟨ok_getL (j := 6) hx hb hts zi_X7 hown hK zc_X7 (by decide) rfl (fun t fl h => by cases h; rfl) (hts _ wd_277) dd_X7_part_22, ?_⟩
  refine List.forall_mem_cons.mpr ⟨ok_goto hx hb dd_X7_part_25 (by decide), ?_⟩
  refine List.forall_mem_cons.mpr ⟨ok_aload_n hx hb rfl dd_X7_part_28, ?_⟩
  refine List.forall_mem_cons.mpr ⟨ok_getL (j := 7) hx hb hts zi_X7 hown hK zc_X7 (by decide) rfl (fun t fl h => by cases h; rfl) (hts _ wd_278) dd_X7_part_29, ?_⟩
  refine List.forall_mem_cons.mpr ⟨ok_lret hx hb hr hlocks hQ dd_X7_part_32, ?_⟩
  exact fun _ h => absurd h List.not_mem_nil
set_option maxRecDepth 100000 in
theorem vc_X7_part_0 {kd : Nat → Nat} {K : zK} {X : zX} (hX : ∀ (n pc : Nat) (ls : zLS) (st : List zV) (M : zM), zrun (tb_X7_part kd K) [] n X pc ls st M → X pc ls st M) {w : Int32} {M : zM} (hk0 : kd 0 = 1) (h : ∀ v1 : Int32, (v1 = zp ((0 : Int32).toInt ≤ w.toInt ∧ w.toInt ≤ (1 : Int32).toInt)) → ((¬ v1 = 0) → ((¬ w = 0) → K (some (zL (M.2 0 7))) M) ∧ ((w = 0) → K (some (zL (M.2 0 6))) M)) ∧ ((v1 = 0) → ∃ s2 : St, (RpX kd M s2) ∧ ∃ k2 : Nat, (k2 < 3 ∧ (-2 : Int32).toInt = -2 - (k2 : Int)) ∧ ∀ v2 : Int32, (v2 = (-2 : Int32)) → ∀ M2 : zM, (RpX kd M2 (sRf s2 k2)) → (fr9 M M2) → K (some (zL (v2.toInt64))) M2)) : X 0 [some (zR 0 0), some (zI (w))] [] M := hX 12 0 _ [] M (show ∀ v1 : Int32, (v1 = zp ((0 : Int32).toInt ≤ w.toInt ∧ w.toInt ≤ (1 : Int32).toInt)) → ((¬ v1 = 0) → ((¬ w = 0) → (kd 0 = 1) ∧ K (some (zL (M.2 0 7))) M) ∧ ((w = 0) → (kd 0 = 1) ∧ K (some (zL (M.2 0 6))) M)) ∧ ((v1 = 0) → (kd 0 = 1) ∧ ∃ s2 : St, (RpX kd M s2) ∧ ∃ k2 : Nat, (k2 < 3 ∧ (-2 : Int32).toInt = -2 - (k2 : Int)) ∧ ∀ v2 : Int32, (v2 = (-2 : Int32)) → ∀ M2 : zM, (RpX kd M2 (sRf s2 k2)) → (fr9 M M2) → K (some (zL (v2.toInt64))) M2) from fun v1 => have h := h v1; fun q => have h := h q; ⟨fun q => have h := h.1 q; ⟨fun q => have h := h.1 q; ⟨hk0, h⟩, fun q => have h := h.2 q; ⟨hk0, h⟩⟩, fun q => have h := h.2 q; ⟨hk0, h.elim (fun s2 h => ⟨s2, ⟨h.1, have h := h.2; h.elim (fun k2 h => ⟨k2, ⟨h.1, have h := h.2; fun v2 => have h := h v2; fun q => have h := h q; fun M2 => have h := h M2; fun q => have h := h q; fun q => have h := h q; h⟩⟩)⟩⟩)⟩⟩)
