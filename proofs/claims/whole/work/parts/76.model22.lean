theorem RpY.scrt {M M' : zM} {b : List Int} (h : RpY M b) (g : scr M M') : RpY M' b := h.congr g.2.2.2 (g.2.2.1 9 (Or.inr rfl))
theorem scr_16 {M M' : zM} {f : Nat → Int32} (hf : ∀ j9, j9 ≤ 16 → f j9 = M.1 9 0 j9) (e : M' = zmw M 9 0 f) : scr M M' := scr_0 (hf 16 (by omega)) e
theorem RpT2.n {f : Nat → Int32} {b : List Int} {T : Tk} (h : RpT2 f b T) {lo hi : Int} : numIs T lo hi = true ↔ (f 19 = 2 ∧ lo ≤ (f 20).toInt ∧ (f 20).toInt ≤ hi) := by
  unfold numIs
  rw [Bool.and_eq_true, decide_eq_true_eq, decide_eq_true_eq, h.k.2.1]
  constructor
  · rintro ⟨h1, h2⟩
    rw [h.2.2.2.1 h1]
    exact ⟨h1, h2⟩
  · rintro ⟨h1, h2⟩
    rw [h.2.2.2.1 h1] at h2
    exact ⟨h1, h2⟩
set_option maxRecDepth 20000 in
theorem mt_X8_takes {kd : Nat → Nat} {K : zK} {X : zX} (hX : ∀ (n pc : Nat) (ls : zLS) (st : List zV) (M : zM), zrun (tb_X8_takes kd K) [] n X pc ls st M → X pc ls st M) (k : Int32) (i : Int32) (n : Int32) (M : zM) (h : (kd 9 = 8) ∧ ∃ b : List Int, ∃ T : Tk, (RpY M b) ∧ (RpT2 (M.1 9 0) b T) ∧ (0 ≤ k.toInt ∧ k.toInt < 4) ∧ ∀ v : Int32, (v = zp (numIs T i.toInt n.toInt = true)) → ∀ M' : zM, (tkP M M' b T k.toInt.toNat i.toInt n.toInt) → K (some (zI v)) M') : X 0 [some (zR 9 0), some (zI (k)), some (zI (i)), some (zI (n))] [] M := by
  obtain ⟨hk, b, T, hY, hT, hkb, hK⟩ := h
  have no : ¬ numIs T i.toInt n.toInt = true → K (some (zI 0)) M := fun q => hK 0 (zp_f q).symm M (by unfold tkP; rw [if_neg q])
  refine vc_X8_takes_0 hX hk ⟨fun q => no (fun h => q (hT.n.mp h).1), fun q v1 h1 => ?_⟩
  rw [Int32.toInt_toInt64, Int32.toInt_toInt64, Int32.toInt_toInt64] at h1
  refine ⟨fun q1 => ⟨zin_of (n := 4) (by rw [hk]; rfl) hkb.1 hkb.2, fun M2 e2 => ?_⟩, fun q1 => no (fun h => ?_)⟩
  · rw [h1, zp_n] at q1
    have hnum : numIs T i.toInt n.toInt = true := hT.n.mpr ⟨q, q1⟩
    have s2 : scr M M2 := scr_mw (by decide) e2
    have g0 : M2.1 9 0 = M.1 9 0 := by rw [e2, zmw_o (by decide)]
    refine ⟨b, T, hY.scrt s2, by rw [g0]; exact hT, fun f3 h3 M3 e3 => hK 1 (zp_t hnum).symm M3 ?_⟩
    unfold tkP
    rw [if_pos hnum]
    refine ⟨by rw [e3, zmw_at]; exact h3.1, ⟨M.1 9 0 20, hT.2.2.2.1 (hT.k.2.1.mp q), ?_⟩, ?_, s2.tr (scr_16 h3.2 e3)⟩
    · rw [e3, zmw_o (by decide), e2, zmw_at, z_cl]
    · rw [e3, zmw_o (by decide), e2, zmw_o (by decide)]
  · rw [h1, zp_0] at q1
    exact q1 (hT.n.mp h).2
theorem ms_X8_takes : zMS 5 yX8_takes cX8_takes 4 (some .boolean) sp_X8_takes := by
  intro d hd
  obtain ⟨d', rfl⟩ : ∃ d', d = d' + 5 := ⟨d - 5, by omega⟩
  refine zmethod (tab := tb_X8_takes) (cut := []) (by decide) (tk_X8_takes d' ms_X8_in ms_X8_goBehind) ?_
  intro kd as M K h
  unfold sp_X8_takes at h
  split at h
  · rename_i k i n
    exact ⟨Nat.le_of_ble_eq_true rfl, fun X hX => mt_X8_takes hX k i n M h⟩
  · exact h.elim

set_option maxRecDepth 20000 in
theorem mt_X8_takesYears {kd : Nat → Nat} {K : zK} {X : zX} (hX : ∀ (n pc : Nat) (ls : zLS) (st : List zV) (M : zM), zrun (tb_X8_takesYears kd K) [] n X pc ls st M → X pc ls st M)  (M : zM) (h : (kd 9 = 8) ∧ ∃ b : List Int, ∃ T : Tk, (RpY M b) ∧ (RpT2 (M.1 9 0) b T) ∧ ∃ a : Sk, (RpF (M.1 9 10) a) ∧ ∀ v : Int32, (v = zp ((rdYr b T a).1 = true)) → ∀ M' : zM, (rdQ M M' b (rdYr b T a)) → K (some (zI v)) M') : X 0 [some (zR 9 0)] [] M := by
  obtain ⟨hk, b, T, hY, hT, a, ha, hK⟩ := h
  refine vc_X8_takesYears_0 hX hk ⟨b, T, hY, hT, fun f1 h1 M1 e1 => ?_⟩
  have s1 : scr M M1 := scr_16 h1.2 e1
  have T1 : RpT2 (M1.1 9 0) b (tok b T.2.2.2) := by rw [e1, zmw_at]; exact h1.1
  have a1 : M1.1 9 10 = M.1 9 10 := by rw [e1, zmw_o (by decide)]
  refine ⟨b, _, hY.scrt s1, T1, by decide, fun v2 h2 M2 t2 => ?_⟩
  have h2' : v2 = zp (numIs (tok b T.2.2.2) 1 99 = true) := h2
  have t2' : tkP M1 M2 b (tok b T.2.2.2) 0 1 99 := t2
  unfold tkP at t2'
  refine ⟨fun q => ?_, fun q => ?_⟩
  · rw [h2', zp_n] at q
    rw [if_pos q] at t2'
    obtain ⟨p1, ⟨x, p2, p3⟩, p4, p5⟩ := t2'
    have hn := (T1.n (lo := 1) (hi := 99)).mp q
    have hx : (M2.1 9 11 ((0 : Int32)).toNatClampNeg).toInt = (tok b T.2.2.2).2.2.1 := by
      show (M2.1 9 11 0).toInt = _
      rw [p3, upd_at, p2]
    have hxb : 1 ≤ (tok b T.2.2.2).2.2.1 ∧ (tok b T.2.2.2).2.2.1 ≤ 99 := by
      unfold numIs at q
      rw [Bool.and_eq_true, decide_eq_true_eq, decide_eq_true_eq] at q
      exact q.2
    rw [hx]
    refine ⟨zin_of (n := 4) (by rw [hk]; rfl) (by decide) (by decide), by decide, a, by rw [p4, a1]; exact ha, by omega, fun f3 hf3 hg3 M3 e3 => hK 1 ?_ M3 ?_⟩ <;> unfold rdYr <;> rw [if_pos q]
    · exact (zp_t rfl).symm
    · refine ⟨by rw [e3, zmw_o (by decide)]; exact p1, fun _ => by rw [e3, zmw_at]; exact hf3, fun j hj => by rw [e3, zmw_at, hg3 j hj, p4, a1], (s1.tr p5).tr (scr_mw (by decide) e3)⟩
  · rw [h2', zp_0] at q
    rw [if_neg q] at t2'
    rw [t2']
    refine hK 0 ?_ M1 ?_ <;> unfold rdYr <;> rw [if_neg q]
    · exact (zp_f (by simp)).symm
    · exact ⟨T1, fun h => absurd h (by simp), fun j hj => by rw [a1], s1⟩
theorem ms_X8_takesYears : zMS 6 yX8_takesYears cX8_takesYears 1 (some .boolean) sp_X8_takesYears := by
  intro d hd
  obtain ⟨d', rfl⟩ : ∃ d', d = d' + 6 := ⟨d - 6, by omega⟩
  refine zmethod (tab := tb_X8_takesYears) (cut := []) (by decide) (tk_X8_takesYears d' ms_X8_goBehind ms_X8_takes ms_X8_goYears) ?_
  intro kd as M K h
  unfold sp_X8_takesYears at h
  split at h
  · skip
    exact ⟨Nat.le_of_ble_eq_true rfl, fun X hX => mt_X8_takesYears hX  M h⟩
  · exact h.elim

theorem n05 {T : Tk} (h : numIs T 0 5 = true) : isC T.2.2.1 := by
  unfold numIs at h
  rw [Bool.and_eq_true, decide_eq_true_eq, decide_eq_true_eq] at h
  exact ⟨h.2.1, by have := h.2.2; omega⟩
theorem nlh {T : Tk} {lo hi : Int} (h : numIs T lo hi = true) : lo ≤ T.2.2.1 ∧ T.2.2.1 ≤ hi := by
  unfold numIs at h
  rw [Bool.and_eq_true, decide_eq_true_eq, decide_eq_true_eq] at h
  exact h.2
set_option maxRecDepth 20000 in
theorem mt_X8_takesRub {kd : Nat → Nat} {K : zK} {X : zX} (hX : ∀ (n pc : Nat) (ls : zLS) (st : List zV) (M : zM), zrun (tb_X8_takesRub kd K) [] n X pc ls st M → X pc ls st M)  (M : zM) (h : (kd 9 = 8) ∧ ∃ b : List Int, ∃ T : Tk, (RpY M b) ∧ (RpT2 (M.1 9 0) b T) ∧ ∃ a : Sk, (RpF (M.1 9 10) a) ∧ ∀ v : Int32, (v = zp ((rdRb b T a).1 = true)) → ∀ M' : zM, (rdQ M M' b (rdRb b T a)) → K (some (zI v)) M') : X 0 [some (zR 9 0)] [] M := by
  obtain ⟨hk, b, T, hY, hT, a, ha, hK⟩ := h
  refine vc_X8_takesRub_0 hX hk ⟨b, T, hY, hT, fun f1 h1 M1 e1 => ?_⟩
  have s1 : scr M M1 := scr_16 h1.2 e1
  have T1 : RpT2 (M1.1 9 0) b (tok b T.2.2.2) := by rw [e1, zmw_at]; exact h1.1
  have a1 : M1.1 9 10 = M.1 9 10 := by rw [e1, zmw_o (by decide)]
  have ha1 : RpF (M1.1 9 10) a := by rw [a1]; exact ha
  have no : ¬ (numIs (tok b T.2.2.2) 0 5 && sk_canR a (tok b T.2.2.2).2.2.1) = true → K (some (zI 0)) M1 := fun q => by
    refine hK 0 ?_ M1 ?_ <;> unfold rdRb <;> rw [if_neg q]
    · exact (zp_f (by simp)).symm
    · exact ⟨T1, fun h => absurd h (by simp), fun j hj => by rw [a1], s1⟩
  refine ⟨fun q => no (fun h => ?_), fun q v2 h2 => ?_⟩
  · rw [Bool.and_eq_true] at h
    exact q (T1.n.mp h.1).1
  · have hval : (M1.1 9 0 20).toInt = (tok b T.2.2.2).2.2.1 := T1.2.2.2.1 (T1.k.2.1.mp q)
    rw [hval] at h2
    rw [hval]
    refine ⟨fun q2 => no (fun h => ?_), fun q2 => ⟨by decide, a, ha1, ?_, fun v3 h3 => ⟨fun q3 => no (fun h => ?_), fun q3 => ⟨b, _, hY.scrt s1, T1, by decide, fun v4 h4 M4 t4 => ?_⟩⟩⟩⟩
    · rw [h2, zp_0] at q2
      rw [Bool.and_eq_true] at h
      exact q2 (n05 h.1)
    · rw [h2, zp_n] at q2; exact q2
    · rw [h3, zp_0] at q3
      rw [Bool.and_eq_true] at h
      exact q3 h.2
    · rw [h2, zp_n] at q2
      rw [h3, zp_n] at q3
      have hnum : numIs (tok b T.2.2.2) 0 5 = true := T1.n.mpr ⟨q, by rw [hval]; omega, by rw [hval]; omega⟩
      have t4' : tkP M1 M4 b (tok b T.2.2.2) 0 0 5 := t4
      unfold tkP at t4'
      rw [if_pos hnum] at t4'
      obtain ⟨p1, ⟨x, p2, p3⟩, p4, p5⟩ := t4'
      have hx : (M4.1 9 11 ((0 : Int32)).toNatClampNeg).toInt = (tok b T.2.2.2).2.2.1 := by
        show (M4.1 9 11 0).toInt = _
        rw [p3, upd_at, p2]
      have hyes : (numIs (tok b T.2.2.2) 0 5 && sk_canR a (tok b T.2.2.2).2.2.1) = true := by rw [hnum, q3]; rfl
      have h4' : v4 = 1 := by rw [h4]; exact zp_t hnum
      refine ⟨fun _ => ?_, fun q4 => absurd q4 (by rw [h4']; decide)⟩
      rw [hx]
      obtain ⟨l, hl, hl2⟩ := sk_canR_iff.mp q3
      have okl : okLy a.2 l := sk_ok_at ha.1 (by rw [← sk_top_at]; exact hl)
      unfold okLy at okl
      refine ⟨zin_of (n := 4) (by rw [hk]; rfl) (by decide) (by decide), by decide, a, by rw [p4]; exact ha1, l, hl, fun v5 h5 f5 hf5 hg5 M5 e5 => ⟨fun q5 => ?_, fun _ => hK 1 ?_ M5 ?_⟩⟩
      · rw [Int32.lt_iff_toInt_lt, h5] at q5
        have q5' : a.2 - l.2.2.2.1 < 0 := q5
        omega
      · unfold rdRb; rw [if_pos hyes]; exact (zp_t rfl).symm
      · unfold rdRb; rw [if_pos hyes]
        exact ⟨by rw [e5, zmw_o (by decide)]; exact p1, fun _ => by rw [e5, zmw_at]; exact hf5, fun j hj => by rw [e5, zmw_at, hg5 j hj, p4, a1], (s1.tr p5).tr (scr_mw (by decide) e5)⟩
theorem ms_X8_takesRub : zMS 6 yX8_takesRub cX8_takesRub 1 (some .boolean) sp_X8_takesRub := by
  intro d hd
  obtain ⟨d', rfl⟩ : ∃ d', d = d' + 6 := ⟨d - 6, by omega⟩
  refine zmethod (tab := tb_X8_takesRub) (cut := []) (by decide) (tk_X8_takesRub d' ms_X8_goBehind ms_X8_isCell ms_X8_mayRub ms_X8_takes ms_X8_goRub) ?_
  intro kd as M K h
  unfold sp_X8_takesRub at h
  split at h
  · skip
    exact ⟨Nat.le_of_ble_eq_true rfl, fun X hX => mt_X8_takesRub hX  M h⟩
  · exact h.elim

set_option maxRecDepth 20000 in
theorem mt_X8_takesWrite {kd : Nat → Nat} {K : zK} {X : zX} (hX : ∀ (n pc : Nat) (ls : zLS) (st : List zV) (M : zM), zrun (tb_X8_takesWrite kd K) [(48, [1])] n X pc ls st M → X pc ls st M)  (M : zM) (h : (kd 9 = 8) ∧ ∃ b : List Int, ∃ T : Tk, (RpY M b) ∧ (RpT2 (M.1 9 0) b T) ∧ ∃ a : Sk, (RpF (M.1 9 10) a) ∧ ∀ v : Int32, (v = zp ((rdWr b T a).1 = true)) → ∀ M' : zM, (rdQ M M' b (rdWr b T a)) → K (some (zI v)) M') : X 0 [some (zR 9 0), none] [] M := by
  obtain ⟨hk, b, T, hY, hT, a, ha, hK⟩ := h
  refine vc_X8_takesWrite_0 hX hk ⟨b, T, hY, hT, fun f1 h1 M1 e1 => ?_⟩
  have s1 : scr M M1 := scr_16 h1.2 e1
  have T1 : RpT2 (M1.1 9 0) b (tok b T.2.2.2) := by rw [e1, zmw_at]; exact h1.1
  have a1 : M1.1 9 10 = M.1 9 10 := by rw [e1, zmw_o (by decide)]
  have ha1 : RpF (M1.1 9 10) a := by rw [a1]; exact ha
  have no : ¬ (numIs (tok b T.2.2.2) 0 5 && sk_canW a (tok b T.2.2.2).2.2.1) = true → K (some (zI 0)) M1 := fun q => by
    refine hK 0 ?_ M1 ?_ <;> unfold rdWr <;> rw [if_neg q]
    · exact (zp_f (by simp)).symm
    · exact ⟨T1, fun h => absurd h (by simp), fun j hj => by rw [a1], s1⟩
  refine ⟨fun q => no (fun h => ?_), fun q v2 h2 => ?_⟩
  · rw [Bool.and_eq_true] at h
    exact q (T1.n.mp h.1).1
  · have hval : (M1.1 9 0 20).toInt = (tok b T.2.2.2).2.2.1 := T1.2.2.2.1 (T1.k.2.1.mp q)
    rw [hval] at h2
    rw [hval]
    refine ⟨fun q2 => no (fun h => ?_), fun q2 => ⟨by decide, a, ha1, ?_, fun v3 h3 => ⟨fun q3 => no (fun h => ?_), fun q3 => ⟨b, _, hY.scrt s1, T1, by decide, fun v4 h4 M4 t4 => ?_⟩⟩⟩⟩
    · rw [h2, zp_0] at q2
      rw [Bool.and_eq_true] at h
      exact q2 (n05 h.1)
    · rw [h2, zp_n] at q2; exact q2
    · rw [h3, zp_0] at q3
      rw [Bool.and_eq_true] at h
      exact q3 h.2
    · rw [h2, zp_n] at q2
      rw [h3, zp_n] at q3
      have hnum : numIs (tok b T.2.2.2) 0 5 = true := T1.n.mpr ⟨q, by rw [hval]; omega, by rw [hval]; omega⟩
      have t4' : tkP M1 M4 b (tok b T.2.2.2) 0 0 5 := t4
      unfold tkP at t4'
      rw [if_pos hnum] at t4'
      obtain ⟨p1, ⟨x, p2, p3⟩, p4, p5⟩ := t4'
      have hyes : (numIs (tok b T.2.2.2) 0 5 && sk_canW a (tok b T.2.2.2).2.2.1) = true := by rw [hnum, q3]; rfl
      have h4' : v4 = 1 := by rw [h4]; exact zp_t hnum
      have er : rdWr b T a = rdWr2 b (tok b T.2.2.2).2.2.1 (tok b T.2.2.2) a := by unfold rdWr; rw [if_pos hyes]
      rw [er] at hK
      have hW := sk_canW_iff.mp q3
      generalize tok b T.2.2.2 = U at hK p1 p2 hW
      refine ⟨fun _ => ?_, fun q4 => absurd q4 (by rw [h4']; decide)⟩
      have s4 := s1.tr p5
      have x0 : (M4.1 9 11 0).toInt = U.2.2.1 := by rw [p3, upd_at, p2]
      have a4 : M4.1 9 10 = M.1 9 10 := by rw [p4, a1]
      refine vc_X8_takesWrite_48 hX hk ⟨b, _, hY.scrt s4, p1, by decide, fun w1 k1 N1 u1 => ?_⟩
      have k1' : w1 = zp (numIs (tok b U.2.2.2) 0 5 = true) := k1
      have u1' : tkP M4 N1 b (tok b U.2.2.2) 1 0 5 := u1
      unfold tkP at u1'
      refine ⟨fun c1 => ?_, fun c1 => ?_⟩
      · rw [k1', zp_0] at c1
        rw [if_neg c1] at u1'
        rw [u1']
        refine hK 0 ?_ M4 ?_ <;> unfold rdWr2 <;> rw [if_neg c1]
        · exact (zp_f (by simp)).symm
        · exact ⟨p1, fun h => absurd h (by simp), fun j hj => by rw [a4], s4⟩
      · rw [k1', zp_n] at c1
        rw [if_pos c1] at u1'
        have er : rdWr2 b U.2.2.1 U a = rdWr3 b U.2.2.1 (tok b U.2.2.2).2.2.1 (tok b U.2.2.2) a := by unfold rdWr2; rw [if_pos c1]
        rw [er] at hK
        have b1 := nlh c1
        generalize tok b U.2.2.2 = V at hK u1' b1
        obtain ⟨r1, ⟨x1, r2, r3⟩, r4, r5⟩ := u1'
        have sN1 := s4.tr r5
        refine ⟨b, _, hY.scrt sN1, r1, by decide, fun w2 k2 N2 u2 => ?_⟩
        have k2' : w2 = zp (numIs (tok b V.2.2.2) 0 4 = true) := k2
        have u2' : tkP N1 N2 b (tok b V.2.2.2) 2 0 4 := u2
        unfold tkP at u2'
        refine ⟨fun c2 => ?_, fun c2 => ?_⟩
        · rw [k2', zp_0] at c2
          rw [if_neg c2] at u2'
          rw [u2']
          refine hK 0 ?_ N1 ?_ <;> unfold rdWr3 <;> rw [if_neg c2]
          · exact (zp_f (by simp)).symm
          · exact ⟨r1, fun h => absurd h (by simp), fun j hj => by rw [r4, a4], sN1⟩
        · rw [k2', zp_n] at c2
          rw [if_pos c2] at u2'
          have er : rdWr3 b U.2.2.1 V.2.2.1 V a = rdWr4 b U.2.2.1 V.2.2.1 (tok b V.2.2.2).2.2.1 (tok b V.2.2.2) a := by unfold rdWr3; rw [if_pos c2]
          rw [er] at hK
          have b2 := nlh c2
          generalize tok b V.2.2.2 = W at hK u2' b2
          obtain ⟨y1, ⟨x2, y2, y3⟩, y4, y5⟩ := u2'
          have sN2 := sN1.tr y5
          refine ⟨b, _, hY.scrt sN2, y1, by decide, fun w3 k3 N3 u3 => ?_⟩
          have k3' : w3 = zp (numIs (tok b W.2.2.2) 0 1 = true) := k3
          have u3' : tkP N2 N3 b (tok b W.2.2.2) 3 0 1 := u3
          unfold tkP at u3'
          refine ⟨fun c3 => ?_, fun c3 => ?_⟩
          · rw [k3', zp_n] at c3
            rw [if_pos c3] at u3'
            obtain ⟨z1, ⟨x3, z2, z3⟩, z4, z5⟩ := u3'
            have sN3 := sN2.tr z5
            have b3 := nlh c3
            have er : rdWr4 b U.2.2.1 V.2.2.1 W.2.2.1 W a = (true, tok b W.2.2.2, sk_wr a U.2.2.1 V.2.2.1 W.2.2.1 (tok b W.2.2.2).2.2.1) := by unfold rdWr4; rw [if_pos c3]
            rw [er] at hK
            have aN : N3.1 9 10 = M.1 9 10 := by rw [z4, y4, r4, a4]
            have v0 : (N3.1 9 11 ((0 : Int32)).toNatClampNeg).toInt = U.2.2.1 := by
              show (N3.1 9 11 0).toInt = _
              rw [z3, upd_ne (by decide), y3, upd_ne (by decide), r3, upd_ne (by decide), x0]
            have v1 : (N3.1 9 11 ((1 : Int32)).toNatClampNeg).toInt = V.2.2.1 := by
              show (N3.1 9 11 1).toInt = _
              rw [z3, upd_ne (by decide), y3, upd_ne (by decide), r3, upd_at, r2]
            have v2 : (N3.1 9 11 ((2 : Int32)).toNatClampNeg).toInt = W.2.2.1 := by
              show (N3.1 9 11 2).toInt = _
              rw [z3, upd_ne (by decide), y3, upd_at, y2]
            have v3 : (N3.1 9 11 ((3 : Int32)).toNatClampNeg).toInt = (tok b W.2.2.2).2.2.1 := by
              show (N3.1 9 11 3).toInt = _
              rw [z3, upd_at, z2]
            rw [v0, v1, v2, v3]
            have zz : ∀ x : Int32, 0 ≤ x.toInt → x.toInt < 4 → zin (kd 9) 11 0 x := fun x h0 h1 => zin_of (n := 4) (by rw [hk]; rfl) h0 h1
            refine ⟨zz _ (by decide) (by decide), zz _ (by decide) (by decide), zz _ (by decide) (by decide), zz _ (by decide) (by decide), by decide, a, by rw [aN]; exact ha, hW.1, hW.2.1, hW.2.2, b1, b2, by omega, fun w4 k4 f4 hf4 hg4 N4 e4 => ⟨fun c4 => ?_, fun _ => hK 1 (zp_t rfl).symm N4 ?_⟩⟩
            · rw [Int32.lt_iff_toInt_lt, k4] at c4
              have c4' : sk_len a U.2.2.1 < 0 := c4
              unfold sk_len at c4'
              omega
            · exact ⟨by rw [e4, zmw_o (by decide)]; exact z1, fun _ => by rw [e4, zmw_at]; exact hf4, fun j hj => by rw [e4, zmw_at, hg4 j hj, aN], sN3.tr (scr_mw (by decide) e4)⟩
          · rw [k3', zp_0] at c3
            rw [if_neg c3] at u3'
            rw [u3']
            refine hK 0 ?_ N2 ?_ <;> unfold rdWr4 <;> rw [if_neg c3]
            · exact (zp_f (by simp)).symm
            · exact ⟨y1, fun h => absurd h (by simp), fun j hj => by rw [y4, r4, a4], sN2⟩
theorem ms_X8_takesWrite : zMS 6 yX8_takesWrite cX8_takesWrite 2 (some .boolean) sp_X8_takesWrite := by
  intro d hd
  obtain ⟨d', rfl⟩ : ∃ d', d = d' + 6 := ⟨d - 6, by omega⟩
  refine zmethod (tab := tb_X8_takesWrite) (cut := [(48, [1])]) (by decide) (tk_X8_takesWrite d' ms_X8_goBehind ms_X8_isCell ms_X8_mayWrite ms_X8_takes ms_X8_goWrite) ?_
  intro kd as M K h
  unfold sp_X8_takesWrite at h
  split at h
  · skip
    exact ⟨Nat.le_of_ble_eq_true rfl, fun X hX => mt_X8_takesWrite hX  M h⟩
  · exact h.elim

set_option maxRecDepth 20000 in
theorem mt_X8_takesItem {kd : Nat → Nat} {K : zK} {X : zX} (hX : ∀ (n pc : Nat) (ls : zLS) (st : List zV) (M : zM), zrun (tb_X8_takesItem kd K) [] n X pc ls st M → X pc ls st M)  (M : zM) (h : (kd 9 = 8) ∧ ∃ b : List Int, ∃ T : Tk, (RpY M b) ∧ (RpT2 (M.1 9 0) b T) ∧ ∃ a : Sk, (RpF (M.1 9 10) a) ∧ ∀ v : Int32, (v = zp ((rdIt b T a).1 = true)) → ∀ M' : zM, (rdQ M M' b (rdIt b T a)) → K (some (zI v)) M') : X 0 [some (zR 9 0)] [] M := by
  obtain ⟨hk, b, T, hY, hT, a, ha, hK⟩ := h
  refine vc_X8_takesItem_0 hX hk ⟨b, T, hY, hT, 21, ⟨by decide, by decide, by decide⟩, fun v1 h1 => ⟨fun q1 => ⟨b, T, hY, hT, 22, ⟨by decide, by decide, by decide⟩, fun v2 h2 => ⟨fun q2 => ⟨b, T, hY, hT, 23, ⟨by decide, by decide, by decide⟩, fun v3 h3 => ⟨fun q3 => ?_, fun q3 => ⟨b, T, hY, hT, a, ha, fun v4 h4 M4 r4 => ⟨fun q4 => ?_, fun q4 => ?_⟩⟩⟩⟩, fun q2 => ⟨b, T, hY, hT, a, ha, fun v5 h5 M5 r5 => ⟨by rw [h5]; exact zp_01, hK v5 ?_ M5 ?_⟩⟩⟩⟩, fun q1 => ⟨b, T, hY, hT, a, ha, fun v6 h6 M6 r6 => ⟨by rw [h6]; exact zp_01, hK v6 ?_ M6 ?_⟩⟩⟩⟩
  · rw [h1, zp_0] at q1
    rw [h2, zp_0] at q2
    rw [h3, zp_0] at q3
    have e : rdIt b T a = (false, T, a) := by unfold rdIt; rw [if_neg q1, if_neg q2, if_neg q3]
    rw [e] at hK
    exact hK 0 (zp_f (by simp)).symm M ⟨hT, fun h => absurd h (by simp), fun j hj => rfl, scr.rf⟩
  · rw [h1, zp_0] at q1
    rw [h2, zp_0] at q2
    rw [h3, zp_n] at q3
    have e : rdIt b T a = rdYr b T a := by unfold rdIt; rw [if_neg q1, if_neg q2, if_pos q3]
    rw [e] at hK
    rw [q4] at h4
    exact hK 0 h4 M4 r4
  · rw [h1, zp_0] at q1
    rw [h2, zp_0] at q2
    rw [h3, zp_n] at q3
    have e : rdIt b T a = rdYr b T a := by unfold rdIt; rw [if_neg q1, if_neg q2, if_pos q3]
    rw [e] at hK
    rw [h4, zp_n] at q4
    exact hK 1 (zp_t q4).symm M4 r4
  · rw [h1, zp_0] at q1
    rw [h2, zp_n] at q2
    have e : rdIt b T a = rdRb b T a := by unfold rdIt; rw [if_neg q1, if_pos q2]
    rw [e]; exact h5
  · rw [h1, zp_0] at q1
    rw [h2, zp_n] at q2
    have e : rdIt b T a = rdRb b T a := by unfold rdIt; rw [if_neg q1, if_pos q2]
    rw [e]; exact r5
  · rw [h1, zp_n] at q1
    have e : rdIt b T a = rdWr b T a := by unfold rdIt; rw [if_pos q1]
    rw [e]; exact h6
  · rw [h1, zp_n] at q1
    have e : rdIt b T a = rdWr b T a := by unfold rdIt; rw [if_pos q1]
    rw [e]; exact r6
theorem ms_X8_takesItem : zMS 7 yX8_takesItem cX8_takesItem 1 (some .boolean) sp_X8_takesItem := by
  intro d hd
  obtain ⟨d', rfl⟩ : ∃ d', d = d' + 7 := ⟨d - 7, by omega⟩
  refine zmethod (tab := tb_X8_takesItem) (cut := []) (by decide) (tk_X8_takesItem d' ms_X8_isWord ms_X8_takesWrite ms_X8_takesRub ms_X8_takesYears) ?_
  intro kd as M K h
  unfold sp_X8_takesItem at h
  split at h
  · skip
    exact ⟨Nat.le_of_ble_eq_true rfl, fun X hX => mt_X8_takesItem hX  M h⟩
  · exact h.elim

