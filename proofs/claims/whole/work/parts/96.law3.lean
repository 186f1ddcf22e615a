theorem wd_773 : Cond.methodLink RL 119 yX7_image ∈ zW := zW_in (List.mem_of_getElem? (i := 773) (by decide +kernel)) (by decide +kernel)
theorem wd_774 : Cond.instanceMethod yX7_image ∈ zW := zW_in (List.mem_of_getElem? (i := 774) (by decide +kernel)) (by decide +kernel)
theorem wd_775 : Cond.selects RX7 yX7_image yX7_image ∈ zW := zW_in (List.mem_of_getElem? (i := 775) (by decide +kernel)) (by decide +kernel)
theorem wd_776 : Cond.code yX7_image cX7_image 3 (some .int) ∈ zW := zW_in (List.mem_of_getElem? (i := 776) (by decide +kernel)) (by decide +kernel)
def R_law : String := "ScrapedRollLaw"
def lw_P (b : Addr) (xs : List Int32) (args : Array Value) (s : State) : Prop := args = #[.ref b] ∧ s.IntsAt b xs ∧ xs.length ≤ 320 ∧ (Jvm.Cond.and given_1 narrow_1).before args s = true
def lw_Q (_ : Array Value) (s : State) (o : Outcome) (t : State) : Prop := o = .returned (some (.int 1)) ∧ Framed s o t [] 600000 7302250
def lw_Z (below : List Frame) (a : Array Value) (s : State) : State → Prop := fun t => ∃ o, t.status = .running ∧ Ended t below o ∧ lw_Q a s o t
/-- the law's own end, with 1 on the stack, nothing written that was there before, its room as the claim has it -/
theorem lw_ret {p : Program} {l : Launch} {e : Env} {s : State} {m : MethodId} {below : List Frame} {meth : Method} {c : Code} {b : Nat} (hx : p.tables.exec = Jvm.exec) (hb : c.code = code) (hr : meth.sig.returnType = ret) (hlocks : meth.locks = false) {pc : Nat} {H : Heap} {ls : Array Slot} (hdg : decode code pc = .ok (.ireturn, 1)) : W p l e room_1 s m #[Value.ref b] below meth c H [] 600000 7302250 (lw_Z below #[Value.ref b] s) (F0 m pc ls [.int 1]) := by
  intro T hT X
  obtain ⟨fs, hret, hrun, hended, hW, hframe⟩ := X.leave (v := some (.int 1)) (hlocks := hlocks) (fun h => by rw [hr] at h; cases h)
  have hmeth' : T.vm.method? m = some meth := X.method'
  refine ⟨T.setFrames fs, ?_, .returned (some (.int 1)), hrun, hended, rfl, ⟨_, rfl⟩, hW, hframe⟩
  jvm_step X.here [X.here.top, hx, hb, hdg, hmeth', hr, ret, narrow_b1]
  (try refine ⟨rfl, ?_⟩); (try refine ⟨rfl, ?_⟩)
  first | (intro acts; rw [hret _ acts rfl rfl rfl]) | rw [hret _ _ rfl rfl rfl]
  exact Steps.refl _
/-- what holds at the law's entry: the machine, the code, the tables' words (any of lw_tbl by 'hts w (by decide +kernel)'), the script of L ints xs at the cell b, what the Statement gives of the start (any of its parts by flat_of_before) -/
def lw_At (p : Program) (s : State) (m : MethodId) (meth : Method) (c : Code) (b L : Nat) (xs : Nat → Int32) : Prop :=
  p.tables.exec = Jvm.exec ∧ c.code = code ∧ meth.sig.returnType = ret ∧ c.maxLocals = 4 ∧ s.vm.findClass R_law = some m.cls ∧ (∀ w ∈ lw_tbl, w.before #[Value.ref b] s = true) ∧ va_X b L xs s s.heap ∧ b < s.heap.size ∧ meth.locks = false ∧ (Jvm.Cond.and given_1 narrow_1).before #[Value.ref b] s = true
theorem dd_L_law_1076 : decode cL_law 1076 = .ok (.iconst 1, 1) := by decide +kernel
theorem dd_L_law_1077 : decode cL_law 1077 = .ok (.ireturn, 1) := by decide +kernel
/-! the blocks that there can be -/
def b0 : zBl := bl7 ++ bl9
def okBl (bl : zBl) : Prop := bl = b0 ∨ bl = b0 ++ img 0 ∨ bl = b0 ++ img 1 ∨ bl = b0 ++ img 0 ++ img 1 ∨ bl = b0 ++ img 1 ++ img 0
set_option maxRecDepth 10000 in
theorem okBl_kd {bl : zBl} (h : okBl bl) : KdX (zkd bl) ∧ zkd bl 9 = 8 := by
  unfold KdX
  rcases h with rfl | rfl | rfl | rfl | rfl <;> decide +kernel
set_option maxRecDepth 10000 in
theorem okBl_blk {bl : zBl} (h : okBl bl) : ∀ jn, jn < 2 → ¬ zkd bl (10 + 4 * jn) = 2 → blk jn bl := by
  intro jn hj hk
  rcases (show jn = 0 ∨ jn = 1 by omega) with rfl | rfl <;> rcases h with rfl | rfl | rfl | rfl | rfl <;> first | exact ⟨by decide +kernel, rfl, by decide +kernel, by decide +kernel, by decide +kernel⟩ | exact absurd rfl hk
theorem okBl_ext {bl : zBl} (h : okBl bl) {jn : Nat} (hj : jn < 2) (hk : ¬ zkd bl (10 + 4 * jn) = 2) : okBl (bl ++ img jn) := by
  rcases (show jn = 0 ∨ jn = 1 by omega) with rfl | rfl <;> rcases h with rfl | rfl | rfl | rfl | rfl <;> first | exact absurd rfl hk | exact Or.inr (Or.inl rfl) | exact Or.inr (Or.inr (Or.inl rfl)) | exact Or.inr (Or.inr (Or.inr (Or.inl rfl))) | exact Or.inr (Or.inr (Or.inr (Or.inr rfl)))
section LAWL
variable {p : Program} {l : Launch} {e : Env} {s : State} {m : MethodId} {below : List Frame} {meth : Method} {c : Code} {D : va_G} {cy : Nat → ClassId}
theorem imcall {R : Room} {args : Array Value} {A : Nat → Prop} {ad : Nat × Nat → Nat} {bl : zBl} {M : zM} {st : St} {j : Int32} {ce so pc : Nat} {Qm : State → Prop} {H : Heap} {locs : List Loc} {arr : Array Slot} {st0 : List Value} {A1 free : Nat → Prop} {a : Array Value} (hr : va_Run p l e R s m args below meth c H locs ce so 15 173 (F0 m pc arr st0) [] (imQ D cy ad bl M st j A1 a) free) (hS : va_S A s.heap H locs) (hA : ∀ q, A1 q → A q) (hf : ∀ q, free q → A q)
    (kk : ∀ (v : Int32) (ad' : Nat × Nat → Nat) (bl' : zBl) (M' : zM) (H1 : Heap) (locs1 : List Loc), imF D cy ad bl M st j A1 v ad' bl' M' → va_P D vwCl (zwl cy ad' bl' M') H1 → va_S A s.heap H1 locs1 → W p l e R s m args below meth c H1 locs1 (ce + 15) (so + 173) Qm (F0 m (pc + 3) arr [.int v])) : W p l e R s m args below meth c H locs ce so Qm (F0 m pc arr st0) := by
  intro T hT X
  obtain ⟨v, st₀, t, T', L, h0, X', hL, e1, e2, ⟨⟨v1, ad', bl', M', hv, hk, hp⟩, hz, hkeep⟩, st⟩ := hr T hT X
  cases hv
  rw [h0] at hz hkeep
  obtain ⟨t2, a1, b1⟩ := kk v1 ad' bl' M' T'.heap (locs ++ L) hk (by rw [e1]; exact hp)
    ⟨Nat.le_trans hS.1 (by rw [e1]; exact hz), fun q h1 h2 => by rw [e1, hkeep q (Nat.lt_of_lt_of_le h1 hS.1) (fun z => h2 (hA q z))]; exact hS.2.1 q h1 h2, fun q hq => by
      rcases List.mem_append.mp hq with h | h
      · exact hS.2.2 q h
      · exact hf _ (hL q h)⟩ T' rfl X'
  exact ⟨t2, st t2 a1, b1⟩
theorem law_cmp {L n : Nat} {i : Int32} (hL : L ≤ 320) (hi : i.toInt = n) (hn : n ≤ 400) : (nI L - 5 < i) ↔ L < n + 5 := by
  have h := nI_toInt (n := L) (by omega)
  simp only [Int32.lt_iff_toInt_lt, Int32.le_iff_toInt_le, ← Int32.toInt_inj, Int32.toInt_add, Int32.toInt_sub, Int32.toInt_mul, Int32.toInt_neg, Int.bmod, Int32.reduceToInt]
  rw [h, hi]
  omega
variable {b L : Nat} {xs : Nat → Int32}
theorem law_exit {ad : Nat × Nat → Nat} {bl : zBl} {ce so : Nat} {ls : zLS} {M : zM} (hx : p.tables.exec = Jvm.exec) (hb : c.code = cL_law) (hr : meth.sig.returnType = ret) (hlocks : meth.locks = false) (h1 : ce ≤ 600000) (h2 : so ≤ 7302250) : zAW p l e room_1 s m #[Value.ref b] below meth c D cy (fun q => s.heap.size ≤ q) ad bl 4 ce so (lw_Z below #[Value.ref b] s) 1076 ls [] M := by
  intro H locs arr hn hP hS hl
  refine lv_iconst (v := 1) hx hb dd_L_law_1076 (by decide) ?_
  refine va_forget (fun q hq => hS.2.2 q hq) ?_
  refine W.widen (k := 600000) (n := 7302250) h1 h2 ?_
  exact lw_ret hx hb hr hlocks dd_L_law_1077
set_option maxRecDepth 20000 in
theorem law_loop (hX : va_X b L xs s s.heap) (hbl : b < s.heap.size) (hL : L ≤ 320) (hr : meth.sig.returnType = ret) (hlocks : meth.locks = false) (hO : va_AO "ScrapedRoll$Roll" s) : ∀ (f n ce so : Nat) (ad : Nat × Nat → Nat) (bl : zBl) (i : Int32) (st : St) (M : zM), zCtx p l e room_1 s m #[Value.ref b] below meth c D cy (fun q => s.heap.size ≤ q) ad bl 4 ce so (lw_Z below #[Value.ref b] s) RL cL_law (60 + 1) → (∀ o, ad (31, o) = b) → okBl bl → RpX (zkd bl) M st → RpM M st → i.toInt = n → n ≤ 330 → L < n + 5 + 5 * f → ce + 15 * f ≤ 600000 → so + 173 * f ≤ 7302250 → zAW p l e room_1 s m #[Value.ref b] below meth c D cy (fun q => s.heap.size ≤ q) ad bl 4 ce so (lw_Z below #[Value.ref b] s) 18 [some (zR 31 0), some (zR 0 0), some (zR 9 0), some (zI i)] [] M := by
  have hbA : ¬ s.heap.size ≤ b := Nat.not_le.mpr hbl
  intro f
  induction f with
  | zero =>
    intro n ce so ad bl i st M C0 hb31 hB hRX hRM hi hn hf h1 h2
    have hXh := zrun_ok (cut := cu_Lh) (tk_Lh C0 hX hbl hbA hb31) (X := zAW p l e room_1 s m #[Value.ref b] below meth c D cy (fun q => s.heap.size ≤ q) ad bl 4 ce so (lw_Z below #[Value.ref b] s)) (fun _ _ _ _ h => h)
    exact vc_Lh_18 hXh ⟨fun _ => law_exit C0.1 C0.2.1 hr hlocks (by omega) (by omega), fun q => absurd ((law_cmp hL hi (by omega)).mpr (by omega)) q⟩
  | succ f ih =>
    intro n ce so ad bl i st M C0 hb31 hB hRX hRM hi hn hf h1 h2
    obtain ⟨hKd, hk9⟩ := okBl_kd hB
    have hXh := zrun_ok (cut := cu_Lh) (tk_Lh C0 hX hbl hbA hb31) (X := zAW p l e room_1 s m #[Value.ref b] below meth c D cy (fun q => s.heap.size ≤ q) ad bl 4 ce so (lw_Z below #[Value.ref b] s)) (fun _ _ _ _ h => h)
    refine vc_Lh_18 hXh ⟨fun _ => law_exit C0.1 C0.2.1 hr hlocks (by omega) (by omega), fun q => ?_⟩
    have hn5 : n + 5 ≤ L := by
      have := mt (law_cmp hL hi (by omega)).mpr q
      omega
    have hv := vpi hi hn5 hL
    have hi5 : (i + 5).toInt = (n + 5 : Nat) := by
      simp only [Int32.lt_iff_toInt_lt, Int32.le_iff_toInt_le, ← Int32.toInt_inj, Int32.toInt_add, Int32.toInt_sub, Int32.toInt_mul, Int32.toInt_neg, Int.bmod, Int32.reduceToInt]
      omega
    have nx : ∀ (M' : zM) (st' : St), RpX (zkd bl) M' st' → RpM M' st' → zAW p l e room_1 s m #[Value.ref b] below meth c D cy (fun q => s.heap.size ≤ q) ad bl 4 ce so (lw_Z below #[Value.ref b] s) 1070 [some (zR 31 0), some (zR 0 0), some (zR 9 0), some (zI i)] [] M' := fun M' st' g1 g2 =>
      vc_Li_1070 (zrun_ok (cut := cu_Li) (tk_Li C0 hX hbl hbA hb31) (X := zAW p l e room_1 s m #[Value.ref b] below meth c D cy (fun q => s.heap.size ≤ q) ad bl 4 ce so (lw_Z below #[Value.ref b] s)) (fun _ _ _ _ h => h)) (ih (n + 5) ce so ad bl (i + 5) st' M' C0 hb31 hB g1 g2 hi5 (by omega) (by omega) (by omega) (by omega))
    have him : zAW p l e room_1 s m #[Value.ref b] below meth c D cy (fun q => s.heap.size ≤ q) ad bl 4 ce so (lw_Z below #[Value.ref b] s) 964 [some (zR 31 0), some (zR 0 0), some (zR 9 0), some (zI i)] [] M := by
      have hXa := zrun_ok (cut := cu_L25a) (tk_L25a C0 hX hbl hbA hb31) (X := zAW p l e room_1 s m #[Value.ref b] below meth c D cy (fun q => s.heap.size ≤ q) ad bl 4 ce so (lw_Z below #[Value.ref b] s)) (fun _ _ _ _ h => h)
      refine vc_L25a_964 hXa ⟨hv.2.1, ?_⟩
      generalize hj : xs (i + 1).toNatClampNeg = j
      intro H locs arr hn hP hS hl
      obtain ⟨hx, hb, hml, hown, hts, hK, hD, hA, hN, hE, ⟨hR1, hR2⟩, hc1, hc2⟩ := id C0
      obtain ⟨q0, fl, -, -, -, hq0⟩ := zobj (cy := cy) (ad := ad) zc_X7 hKd.1
      refine imcall (va_runV (C := RX7) (As := [.int j]) (rest := []) ⟨hx, hb, hml, hown, hts⟩ (met_image l D cy ad bl M H.size j st hRX hKd (okBl_blk hB)) (cwV 1 hts (zgV wd_773 wd_774 wd_775 wd_100 wd_776) rfl rfl rfl ⟨by decide +kernel, by decide +kernel, by decide +kernel, by decide +kernel⟩ ⟨by show 3 + 1 ≤ 2048; omega, by show 8 + (3 + 11) + 120 ≤ 84000; omega⟩) ⟨imP_blind, va_recv hK hP zc_X7.1 (hq0 M), fun U hU hW => ⟨⟨rfl, by rw [hU], by rw [hU]; exact hP, va_K.moved hW.alike hK, (hD M).weaken (fun _ _ _ _ => trivial), zNW_warm hW hN, zE_go hW hU hS (zfree (hD M) hS hA) hE⟩, va_AO.moved hW.alike hO⟩⟩ rfl rfl hl.1 rfl (lv_room (Nat.le_of_ble_eq_true rfl)) dd_L_law_970 ⟨by show ce + 15 ≤ 600000; omega, by show so + 173 ≤ 7302250; omega⟩) hS (zfree (hD M) hS hA) (zfree (hD M) hS hA) (fun v ad' bl' M' H1 locs1 hF hP1 hS1 => ?_)
      obtain ⟨hv1, hRX1, hf9, hDn, hcase⟩ := hF
      have hsame : ∀ t o, (t < 10 ∨ 20 ≤ t) → ad' (t, o) = ad (t, o) := fun t o ht => by
        rcases hcase with ⟨rfl, rfl⟩ | ⟨jn, T, hjn, hk, rfl, rfl⟩
        · rfl
        · exact adN_out (outB_iff.mpr (by show t < 10 + 4 * jn ∨ 14 + 4 * jn ≤ t; omega))
      have hB1 : okBl bl' := by
        rcases hcase with ⟨rfl, rfl⟩ | ⟨jn, T, hjn, hk, rfl, rfl⟩
        · exact hB
        · exact okBl_ext hB hjn hk
      obtain ⟨hKd1, hk91⟩ := okBl_kd hB1
      have hb31' : ∀ o, ad' (31, o) = b := fun o => by rw [hsame 31 o (by omega)]; exact hb31 o
      have C1 : zCtx p l e room_1 s m #[Value.ref b] below meth c D cy (fun q => s.heap.size ≤ q) ad' bl' 4 (ce + 15) (so + 173) (lw_Z below #[Value.ref b] s) RL cL_law (60 + 1) := ⟨hx, hb, hml, hown, hts, hK, fun M2 => (hDn M2).weaken (fun k q _ h => zfree (hD M) hS hA q.1 h), hA, hN, zE_cg (fun t o h => hsame t o (Or.inr h)) hE, ⟨hR1, hR2⟩, by show ce + 15 ≤ 600000; omega, by show so + 173 ≤ 7302250; omega⟩
      have hXb := zrun_ok (cut := cu_L25b) (tk_L25b C1 hX hbl hbA hb31') (X := zAW p l e room_1 s m #[Value.ref b] below meth c D cy (fun q => s.heap.size ≤ q) ad' bl' 4 (ce + 15) (so + 173) (lw_Z below #[Value.ref b] s)) (fun _ _ _ _ h => h)
      have hfin : zAW p l e room_1 s m #[Value.ref b] below meth c D cy (fun q => s.heap.size ≤ q) ad' bl' 4 (ce + 15) (so + 173) (lw_Z below #[Value.ref b] s) 973 [some (zR 31 0), some (zR 0 0), some (zR 9 0), some (zI i)] [zI v] M' := by
        refine vc_L25b_973 hXb hk91 ⟨hv.2.1, st, hRM.f9 hf9, fun v2 h2 M2 g2 f2 => ⟨fun _ => ?_, fun q => q (Int32.toInt_inj.mp (hv1.trans ((by rw [hj] at h2; exact h2.symm))))⟩⟩
        rw [hj] at g2
        exact vc_Li_1070 (zrun_ok (cut := cu_Li) (tk_Li C1 hX hbl hbA hb31') (X := zAW p l e room_1 s m #[Value.ref b] below meth c D cy (fun q => s.heap.size ≤ q) ad' bl' 4 (ce + 15) (so + 173) (lw_Z below #[Value.ref b] s)) (fun _ _ _ _ h => h)) (ih (n + 5) (ce + 15) (so + 173) ad' bl' (i + 5) _ M2 C1 hb31' hB1 (hRX1.f0 f2) g2 hi5 (by omega) (by omega) (by omega) (by omega))
      refine hfin H1 locs1 arr rfl hP1 hS1 ?_
      show lv_has arr 4 [(0, .ref (ad' (31, 0))), (1, .ref (ad' (0, 0))), (2, .ref (ad' (9, 0))), (3, .int i)]
      rw [hsame 31 0 (by omega), hsame 0 0 (by omega), hsame 9 0 (by omega)]
      exact hl
    exact ⟨hv.1, ⟨fun _ => lc_roll C0 hX hbl hbA hb31 hKd hk9 hi hn5 hL hRX hRM nx, fun _ => ⟨fun _ => lc_write C0 hX hbl hbA hb31 hKd hk9 hi hn5 hL hRX hRM nx, fun _ => ⟨fun _ => lc_rub C0 hX hbl hbA hb31 hKd hk9 hi hn5 hL hRX hRM nx, fun _ => ⟨fun _ => lc_years C0 hX hbl hbA hb31 hKd hk9 hi hn5 hL hRX hRM nx, fun _ => ⟨fun _ => lc_undo C0 hX hbl hbA hb31 hKd hk9 hi hn5 hL hRX hRM nx, fun _ => ⟨fun _ => lc_type C0 hX hbl hbA hb31 hKd hk9 hi hn5 hL hRX hRM nx, fun _ => ⟨fun _ => lc_clear C0 hX hbl hbA hb31 hKd hk9 hi hn5 hL hRX hRM nx, fun _ => ⟨fun _ => lc_read C0 hX hbl hbA hb31 hKd hk9 hi hn5 hL hRX hRM nx, fun _ => ⟨fun _ => lc_layers C0 hX hbl hbA hb31 hKd hk9 hi hn5 hL hRX hRM nx, fun _ => ⟨fun _ => lc_of C0 hX hbl hbA hb31 hKd hk9 hi hn5 hL hRX hRM nx, fun _ => ⟨fun _ => lc_binds C0 hX hbl hbA hb31 hKd hk9 hi hn5 hL hRX hRM nx, fun _ => ⟨fun _ => lc_rule C0 hX hbl hbA hb31 hKd hk9 hi hn5 hL hRX hRM nx, fun _ => ⟨fun _ => lc_ends C0 hX hbl hbA hb31 hKd hk9 hi hn5 hL hRX hRM nx, fun _ => ⟨fun _ => lc_quarrel C0 hX hbl hbA hb31 hKd hk9 hi hn5 hL hRX hRM nx, fun _ => ⟨fun _ => lc_tear C0 hX hbl hbA hb31 hKd hk9 hi hn5 hL hRX hRM nx, fun _ => ⟨fun _ => lc_hangs C0 hX hbl hbA hb31 hKd hk9 hi hn5 hL hRX hRM nx, fun _ => ⟨fun _ => lc_strokes C0 hX hbl hbA hb31 hKd hk9 hi hn5 hL hRX hRM nx, fun _ => ⟨fun _ => lc_parties C0 hX hbl hbA hb31 hKd hk9 hi hn5 hL hRX hRM nx, fun _ => ⟨fun _ => lc_seen C0 hX hbl hbA hb31 hKd hk9 hi hn5 hL hRX hRM nx, fun _ => ⟨fun _ => lc_forget C0 hX hbl hbA hb31 hKd hk9 hi hn5 hL hRX hRM nx, fun _ => ⟨fun _ => lc_is C0 hX hbl hbA hb31 hKd hk9 hi hn5 hL hRX hRM nx, fun _ => ⟨fun _ => lc_look C0 hX hbl hbA hb31 hKd hk9 hi hn5 hL hRX hRM nx, fun _ => ⟨fun _ => lc_thumbs C0 hX hbl hbA hb31 hKd hk9 hi hn5 hL hRX hRM nx, fun _ => ⟨fun _ => lc_centuries C0 hX hbl hbA hb31 hKd hk9 hi hn5 hL hRX hRM nx, fun _ => ⟨fun _ => lc_part C0 hX hbl hbA hb31 hKd hk9 hi hn5 hL hRX hRM nx, fun _ => ⟨fun _ => him, fun _ => ⟨fun _ => lc_from C0 hX hbl hbA hb31 hKd hk9 hi hn5 hL hRX hRM nx, fun _ => ⟨fun _ => lc_status C0 hX hbl hbA hb31 hKd hk9 hi hn5 hL hRX hRM nx, fun _ => ⟨fun _ => lc_count C0 hX hbl hbA hb31 hKd hk9 hi hn5 hL hRX hRM nx, fun _ => ⟨fun _ => lc_digest C0 hX hbl hbA hb31 hKd hk9 hi hn5 hL hRX hRM nx, fun _ => nx M st hRX hRM⟩⟩⟩⟩⟩⟩⟩⟩⟩⟩⟩⟩⟩⟩⟩⟩⟩⟩⟩⟩⟩⟩⟩⟩⟩⟩⟩⟩⟩⟩⟩
end LAWL
