theorem scr.rf {M : zM} : scr M M := ⟨fun _ _ => rfl, rfl, fun _ _ => rfl, rfl⟩
theorem scr.tr {M M' M'' : zM} (h : scr M M') (g : scr M' M'') : scr M M'' := ⟨fun n hn => by rw [g.1 n hn, h.1 n hn], by rw [g.2.1, h.2.1], fun o ho => by rw [g.2.2.1 o ho, h.2.2.1 o ho], by rw [g.2.2.2, h.2.2.2]⟩
theorem scr_mw {M M' : zM} {o : Nat} {f : Nat → Int32} (ho : 5 ≤ o ∧ o ≠ 9) (e : M' = zmw M 9 o f) : scr M M' := ⟨fun n hn => by rw [e, zmw_bs, zbs_ne hn], by rw [e, zmw_2], fun p hp => by rw [e, zmw_o (by omega)], by rw [e, zmw_o (by omega)]⟩
theorem scr_0 {M M' : zM} {f : Nat → Int32} (hf : f 16 = M.1 9 0 16) (e : M' = zmw M 9 0 f) : scr M M' := ⟨fun n hn => by rw [e, zmw_bs, zbs_ne hn], by rw [e, zmw_2], fun p hp => by rw [e, zmw_o (by omega)], by rw [e, zmw_at]; exact hf⟩
theorem RpM.scrt {M M' : zM} {s : St} (h : RpM M s) (g : scr M M') : RpM M' s ∧ fr0 M M' :=
  ⟨h.g (M' := M') (r := s.1) (b := s.2.2.1) (by rw [g.2.2.1 1 (by omega)]; exact h.1) (h.2.2.1.congr g.2.2.2 (g.2.2.1 9 (by omega))) (g.2.2.1 2 (by omega)) (g.2.2.1 3 (by omega)) (g.2.2.1 4 (by omega)) g.2.1, g.1, fun n _ => by rw [g.2.1]⟩
theorem may16 {a : Sk} {w : Int} (h : 16 ≤ w) : sk_may a w = false := by
  unfold sk_may
  rw [if_neg (by omega)]
  cases e : sk_canW a (w - 10) with
  | false => rfl
  | true => exact absurd (sk_canW_iff.mp e).1 (by omega)
theorem trm {a : Sk} {w : Int} (h : w < 20) : tr_may a w = sk_may a w := by
  unfold tr_may
  have : ¬ w = 20 := by omega
  simp [this]
def pS (a : Sk) (g y v : Int) (n w : Nat) : Bool := sk_may a w && rowOk g y v n (sk_do a w g (le12 v))
theorem pS16 {a : Sk} {g y v : Int} {n w : Nat} (h : 16 ≤ w) : pS a g y v n w = false := by
  unfold pS
  rw [may16 (by omega)]
  rfl
theorem pS_no {a : Sk} {g y v : Int} {n j : Nat} (hno : ∀ w', w' < j → pS a g y v n w' = false) (h : pS a g y v n j = false) : ∀ w', w' < j + 1 → pS a g y v n w' = false := fun w' h' => by
  by_cases e : w' = j
  · rw [e]; exact h
  · exact hno w' (by omega)
theorem row1_n {b : Sk} {g y v : Int} (hno : ∀ w', w' < 16 → pS b g y v 0 w' = false) : rowOk g y v 1 b = false := by
  show (List.range 20).any (pS b g y v 0) = false
  rw [List.any_eq_false]
  intro x hx
  by_cases h16 : x < 16
  · rw [hno x h16]; decide
  · rw [pS16 (by omega)]; decide
theorem row1_y {b : Sk} {g y v : Int} {i : Nat} (hi : i < 20) (h : pS b g y v 0 i = true) : rowOk g y v 1 b = true := by
  show (List.range 20).any (pS b g y v 0) = true
  rw [List.any_eq_true]
  exact ⟨i, List.mem_range.mpr hi, h⟩
theorem stk {M M1 M3 M4 M5 M6 : zM} {f1 f3 f5 : Nat → Int32} {w x : Int32} (e1 : M1 = zmw M 9 5 f1) (e3 : M3 = zmw M1 9 5 f3) (e4 : M4 = zmw M3 9 0 (upd (M3.1 9 0) 11 w)) (h5 : ∀ j9, j9 ≠ 7 → j9 ≠ 8 → f5 j9 = M4.1 9 0 j9) (e5 : M5 = zmw M4 9 0 f5) (e6 : M6 = zmw M5 9 0 (upd (M5.1 9 0) 10 x)) : scr M M6 ∧ M6.1 9 6 = M.1 9 6 ∧ M6.1 9 0 10 = x ∧ M6.1 9 0 11 = w := by
  have s1 := scr_mw (by decide) e1
  have s3 := scr_mw (by decide) e3
  have s4 := scr_0 (upd_ne (by decide)) e4
  have s5 := scr_0 (h5 16 (by decide) (by decide)) e5
  have s6 := scr_0 (upd_ne (by decide)) e6
  refine ⟨(((s1.tr s3).tr s4).tr s5).tr s6, ?_, ?_, ?_⟩
  · rw [e6, zmw_o (by decide), e5, zmw_o (by decide), e4, zmw_o (by decide), e3, zmw_o (by decide), e1, zmw_o (by decide)]
  · rw [e6, zmw_at, upd_at]
  · rw [e6, zmw_at, upd_ne (by decide), e5, zmw_at, h5 11 (by decide) (by decide), e4, zmw_at, upd_at]
theorem t127_0 : 127 * (0 : Int32).toInt.toNat = 0 := rfl
theorem t127_1 : 127 * (1 : Int32).toInt.toNat = 127 := rfl
set_option maxRecDepth 20000 in
theorem mt_X8_tryTwo {kd : Nat → Nat} {K : zK} {X : zX} (hX : ∀ (n pc : Nat) (ls : zLS) (st : List zV) (M : zM), zrun (tb_X8_tryTwo kd K) [(3, [5]), (57, [])] n X pc ls st M → X pc ls st M) (g : Int32) (z : Int32) (y : Int32) (M : zM) (h : (kd 9 = 8) ∧ ∃ a : Sk, (RpF (M.1 9 6) a) ∧ ((M.1 9 0 10).toInt = -1) ∧ (isT g.toInt ∧ inn z.toInt 1 2 ∧ 0 ≤ y.toInt ∧ y.toInt < 1000000) ∧ ∀ M' : zM, (scr M M') → (str2 a g.toInt y.toInt z.toInt (M'.1 9 0 10).toInt (M'.1 9 0 11).toInt) → K none M') : X 0 [some (zR 9 0), some (zI (g)), some (zI (z)), some (zI (y)), none, none] [] M := by
  obtain ⟨hk, a, ha, hw0, ⟨hg, hz, hy⟩, hK⟩ := h
  have m1 : ∀ x : Int32, x = (-1 : Int32) ↔ x.toInt = -1 := fun x => by rw [← Int32.toInt_inj]; exact Iff.rfl
  have z1 : z = (1 : Int32) ↔ z.toInt = 1 := by rw [← Int32.toInt_inj]; exact Iff.rfl
  have le0 : ¬ z = 1 → le12 z.toInt = (0 : Int32).toInt := fun q => by rw [z1] at q; unfold le12; rw [if_neg q]; rfl
  have le1 : z = 1 → le12 z.toInt = (1 : Int32).toInt := fun q => by rw [z1] at q; unfold le12; rw [if_pos q]; rfl
  have done : ∀ (M1 : zM) (w : Int32) (x : Nat), scr M M1 → (M1.1 9 0 10).toInt = 2 → (M1.1 9 0 11).toInt = x → x < 20 → pS a g.toInt y.toInt z.toInt 1 x = true → (∀ w', w' < x → pS a g.toInt y.toInt z.toInt 1 w' = false) → X 3 [some (zR 9 0), some (zI g), some (zI z), some (zI y), some (zI w), none] [] M1 := fun M1 w x hs h10 h11 hx hp hno => by
    have fin : K none M1 := hK M1 hs ⟨x, Or.inr ⟨x, hx, rfl, hp, hno⟩, Or.inl ⟨by omega, h10, h11⟩⟩
    exact vc_X8_tryTwo_3 hX hk ⟨fun _ => fin, fun _ => ⟨fun _ => fin, fun q => by rw [m1] at q; omega⟩⟩
  refine vc_X8_tryTwo_0 hX (up (N := 16) (Q := fun j => ∀ (M1 : zM) (w : Int32), w.toInt = j → scr M M1 → RpF (M1.1 9 6) a → (M1.1 9 0 10).toInt = -1 → (∀ w', w' < j → pS a g.toInt y.toInt z.toInt 1 w' = false) → X 3 [some (zR 9 0), some (zI g), some (zI z), some (zI y), some (zI w), none] [] M1) (fun M1 w hw hs h6 h10 hno => ?_) (fun j hj ih M1 w hw hs h6 h10 hno => ?_) 0 (by omega) M 0 rfl scr.rf ha hw0 (fun w' h' => absurd h' (by omega)))
  · refine vc_X8_tryTwo_3 hX hk ⟨fun _ => hK M1 hs ⟨-1, Or.inl ⟨rfl, fun w' h' => ?_⟩, Or.inr ⟨rfl, h10⟩⟩, fun q => by simp only [Int32.lt_iff_toInt_lt, Int32.le_iff_toInt_le, ← Int32.toInt_inj, Int32.toInt_add, Int32.toInt_sub, Int32.toInt_mul, Int32.toInt_neg, Int.bmod, Int32.reduceToInt] at q; omega⟩
    by_cases h16 : w' < 16
    · exact hno w' h16
    · exact pS16 (by omega)
  · have key : ∀ (f1 : Nat → Int32) (M2 : zM) (e : Int) (f3 : Nat → Int32) (M3 : zM) (f4 : Nat → Int32) (M4 : zM), M2 = zmw M1 9 5 f1 → e = le12 z.toInt → tr_may a w.toInt = true → RpF f3 (tr_do a w.toInt g.toInt e) → M3 = zmw M2 9 5 f3 → (∀ j9, j9 < 127 → f4 (127 * (1 : Int32).toInt.toNat + j9) = M3.1 9 5 j9) → (∀ j9, (j9 < 127 * (1 : Int32).toInt.toNat ∨ 127 * (1 : Int32).toInt.toNat + 127 ≤ j9) → f4 j9 = M3.1 9 6 j9) → M4 = zmw M3 9 6 f4 → X 57 [some (zR 9 0), some (zI g), some (zI z), some (zI y), some (zI w), some (zI ((0 : Int32)))] [] M4 := by
      intro f1 M2 e f3 M3 f4 M4 e2 he hm hf3 e3 hf4 hg4 e4
      rw [trm (by omega), hw] at hm
      rw [tr_do_sk (by omega), he, hw] at hf3
      rw [t127_1] at hf4 hg4
      have s4 : scr M M4 := ((hs.tr (scr_mw (by decide) e2)).tr (scr_mw (by decide) e3)).tr (scr_mw (by decide) e4)
      have a4 : RpF (M4.1 9 6) a := h6.congr (fun k hk => by rw [e4, zmw_at, hg4 k (Or.inl hk), e3, zmw_o (by decide), e2, zmw_o (by decide)])
      have b4 : RpF (fun k => M4.1 9 6 (127 + k)) (sk_do a j g.toInt (le12 z.toInt)) := hf3.congr (fun k hk => by show M4.1 9 6 (127 + k) = _; rw [e4, zmw_at, hf4 k hk, e3, zmw_at])
      have f4' : (M4.1 9 0 10).toInt = -1 := by rw [e4, zmw_o (by decide), e3, zmw_o (by decide), e2, zmw_o (by decide)]; exact h10
      refine up (N := 16) (Q := fun i => ∀ (M5 : zM) (u : Int32), u.toInt = i → scr M M5 → RpF (M5.1 9 6) a → RpF (fun k => M5.1 9 6 (127 + k)) (sk_do a j g.toInt (le12 z.toInt)) → (M5.1 9 0 10).toInt = -1 → (∀ w', w' < i → pS (sk_do a j g.toInt (le12 z.toInt)) g.toInt y.toInt z.toInt 0 w' = false) → X 57 [some (zR 9 0), some (zI g), some (zI z), some (zI y), some (zI w), some (zI u)] [] M5) (fun M5 u hu s5 a5 b5 h5 no5 => ?_) (fun i hi ih2 M5 u hu s5 a5 b5 h5 no5 => ?_) 0 (by omega) M4 0 rfl s4 a4 b4 f4' (fun w' h' => absurd h' (by omega))
      · refine vc_X8_tryTwo_57 hX hk ⟨fun _ => ih M5 (w + 1) (z_inc hw (by omega)) s5 a5 h5 (pS_no hno ?_), fun q => by simp only [Int32.lt_iff_toInt_lt, Int32.le_iff_toInt_le, ← Int32.toInt_inj, Int32.toInt_add, Int32.toInt_sub, Int32.toInt_mul, Int32.toInt_neg, Int.bmod, Int32.reduceToInt] at q; omega⟩
        unfold pS
        rw [row1_n no5]
        simp
      · have key2 : ∀ (f1 : Nat → Int32) (M6 : zM) (e : Int) (f3 : Nat → Int32) (M7 M8 : zM) (v : Int32) (f5 : Nat → Int32) (M9 : zM), M6 = zmw M5 9 5 f1 → e = le12 z.toInt → tr_may (sk_do a j g.toInt (le12 z.toInt)) u.toInt = true → RpF f3 (tr_do (sk_do a j g.toInt (le12 z.toInt)) u.toInt g.toInt e) → M7 = zmw M6 9 5 f3 → M8 = zmw M7 9 0 (upd (M7.1 9 0) 11 w) → v.toInt = sk_law (tr_do (sk_do a j g.toInt (le12 z.toInt)) u.toInt g.toInt e) g.toInt y.toInt → (∀ j9, j9 ≠ 7 → j9 ≠ 8 → f5 j9 = M8.1 9 0 j9) → M9 = zmw M8 9 0 f5 → ((¬ v = z) → ∀ M10 : zM, (M10 = zmw M9 9 0 (upd (M9.1 9 0) 10 (-1 : Int32))) → X 57 [some (zR 9 0), some (zI g), some (zI z), some (zI y), some (zI w), some (zI (u + 1))] [] M10) ∧ ((v = z) → ∀ M11 : zM, (M11 = zmw M9 9 0 (upd (M9.1 9 0) 10 (2 : Int32))) → X 57 [some (zR 9 0), some (zI g), some (zI z), some (zI y), some (zI w), some (zI (u + 1))] [] M11) := by
          intro f1 M6 e f3 M7 M8 v f5 M9 e6 he hm2 hf3 e7 e8 hv hf5 e9
          rw [tr_do_sk (by omega), he, hu] at hv
          rw [trm (by omega), hu] at hm2
          refine ⟨fun q M10 e10 => ?_, fun q M11 e11 => ?_⟩
          · obtain ⟨g1, g2, g3, g4⟩ := stk e6 e7 e8 hf5 e9 e10
            refine ih2 M10 (u + 1) (z_inc hu (by omega)) (s5.tr g1) (by rw [g2]; exact a5) (by rw [g2]; exact b5) (by rw [g3]; rfl) (pS_no no5 ?_)
            rw [← Int32.toInt_inj, hv] at q
            unfold pS
            show (_ && decide _) = false
            rw [decide_eq_false q]
            simp
          · obtain ⟨g1, g2, g3, g4⟩ := stk e6 e7 e8 hf5 e9 e11
            rw [← Int32.toInt_inj, hv] at q
            have py : pS (sk_do a j g.toInt (le12 z.toInt)) g.toInt y.toInt z.toInt 0 i = true := by
              unfold pS
              rw [hm2]
              show (true && decide _) = true
              rw [decide_eq_true q]
              rfl
            have d := done M11 (w + 1) j (s5.tr g1) (by rw [g3]; rfl) (by rw [g4]; exact hw) (by omega) (by unfold pS; rw [hm, row1_y (by omega) py]; rfl) hno
            refine vc_X8_tryTwo_57 hX hk ⟨fun _ => d, fun _ => ⟨fun _ => d, fun q2 => ?_⟩⟩
            rw [g3] at q2
            exact absurd q2 (by decide)
        refine vc_X8_tryTwo_57 hX hk ⟨fun q => by simp only [Int32.lt_iff_toInt_lt, Int32.le_iff_toInt_le, ← Int32.toInt_inj, Int32.toInt_add, Int32.toInt_sub, Int32.toInt_mul, Int32.toInt_neg, Int.bmod, Int32.reduceToInt] at q; omega, fun _ => ⟨fun q => absurd ((m1 _).mpr h5) q, fun _ => ⟨by decide, fun f1 hf1 M6 e6 => ?_⟩⟩⟩
        have b6 : RpF (M6.1 9 5) (sk_do a j g.toInt (le12 z.toInt)) := b5.congr (fun k hk => by rw [e6, zmw_at, hf1 k hk, t127_1])
        refine ⟨_, b6, by omega, fun v2 hv2 => ⟨fun q2 => ih2 M6 (u + 1) (z_inc hu (by omega)) (s5.tr (scr_mw (by decide) e6)) (by rw [e6, zmw_o (by decide)]; exact a5) (by rw [e6, zmw_o (by decide)]; exact b5) (by rw [e6, zmw_o (by decide)]; exact h5) (pS_no no5 ?_), fun q2 => ?_⟩⟩
        · rw [hv2, zp_0, trm (by omega), hu] at q2
          unfold pS
          simp [q2]
        · rw [hv2, zp_n] at q2
          refine ⟨fun qz => ⟨_, b6, by omega, q2, by omega, by decide, fun f3 hf3 M7 e7 M8 e8 => ⟨_, by rw [e8, zmw_o (by decide), e7, zmw_at]; exact hf3, hy, fun v5 hv5 f5 hf5 M9 e9 => key2 f1 M6 _ f3 M7 M8 v5 f5 M9 e6 (le0 qz).symm q2 hf3 e7 e8 hv5 hf5.2.2 e9⟩⟩, fun qz => ⟨_, b6, by omega, q2, by omega, by decide, fun f3 hf3 M7 e7 M8 e8 => ⟨_, by rw [e8, zmw_o (by decide), e7, zmw_at]; exact hf3, hy, fun v5 hv5 f5 hf5 M9 e9 => key2 f1 M6 _ f3 M7 M8 v5 f5 M9 e6 (le1 qz).symm q2 hf3 e7 e8 hv5 hf5.2.2 e9⟩⟩⟩
    refine vc_X8_tryTwo_3 hX hk ⟨fun q => by simp only [Int32.lt_iff_toInt_lt, Int32.le_iff_toInt_le, ← Int32.toInt_inj, Int32.toInt_add, Int32.toInt_sub, Int32.toInt_mul, Int32.toInt_neg, Int.bmod, Int32.reduceToInt] at q; omega, fun _ => ⟨fun q => absurd ((m1 _).mpr h10) q, fun _ => ⟨by decide, fun f1 hf1 M2 e2 => ?_⟩⟩⟩
    have a2 : RpF (M2.1 9 5) a := h6.congr (fun k hk => by rw [e2, zmw_at, hf1 k hk, t127_0, Nat.zero_add])
    refine ⟨a, a2, by omega, fun v2 hv2 => ⟨fun q2 => ih M2 (w + 1) (z_inc hw (by omega)) (hs.tr (scr_mw (by decide) e2)) (by rw [e2, zmw_o (by decide)]; exact h6) (by rw [e2, zmw_o (by decide)]; exact h10) (pS_no hno ?_), fun q2 => ?_⟩⟩
    · rw [hv2, zp_0, trm (by omega), hw] at q2
      unfold pS
      simp [q2]
    · rw [hv2, zp_n] at q2
      exact ⟨fun qz => ⟨a, a2, by omega, q2, by omega, by decide, fun f3 hf3 M3 e3 => ⟨by decide, fun f4 hf4 hg4 M4 e4 => key f1 M2 _ f3 M3 f4 M4 e2 (le0 qz).symm q2 hf3 e3 hf4 hg4 e4⟩⟩, fun qz => ⟨a, a2, by omega, q2, by omega, by decide, fun f3 hf3 M3 e3 => ⟨by decide, fun f4 hf4 hg4 M4 e4 => key f1 M2 _ f3 M3 f4 M4 e2 (le1 qz).symm q2 hf3 e3 hf4 hg4 e4⟩⟩⟩
theorem ms_X8_tryTwo : zMS 8 yX8_tryTwo cX8_tryTwo 6 none sp_X8_tryTwo := by
  intro d hd
  obtain ⟨d', rfl⟩ : ∃ d', d = d' + 8 := ⟨d - 8, by omega⟩
  refine zmethod (tab := tb_X8_tryTwo) (cut := [(3, [5]), (57, [])]) (by decide) (tk_X8_tryTwo d' ms_X8_backTo ms_X8_mayStroke ms_X8_goStroke ms_X8_laySkin ms_X8_ruleOf) ?_
  intro kd as M K h
  unfold sp_X8_tryTwo at h
  split at h
  · rename_i g z y
    exact ⟨Nat.le_of_ble_eq_true rfl, fun X hX => mt_X8_tryTwo hX g z y M h⟩
  · exact h.elim

set_option maxRecDepth 20000 in
theorem mt_X8_layStrokes {kd : Nat → Nat} {K : zK} {X : zX} (hX : ∀ (n pc : Nat) (ls : zLS) (st : List zV) (M : zM), zrun (tb_X8_layStrokes kd K) [(36, [])] n X pc ls st M → X pc ls st M) (g : Int32) (z : Int32) (y : Int32) (M : zM) (h : (kd 9 = 8) ∧ ∃ a : Sk, (RpF (M.1 9 1) a) ∧ (isT g.toInt ∧ inn z.toInt 1 2 ∧ 0 ≤ y.toInt ∧ y.toInt < 1000000) ∧ ∀ M' : zM, (scr M M') → (str1 a g.toInt y.toInt z.toInt (M'.1 9 0 10).toInt (M'.1 9 0 11).toInt) → K none M') : X 0 [some (zR 9 0), some (zI (g)), some (zI (z)), some (zI (y)), none] [] M := by
  obtain ⟨hk, a, ha, ⟨hg, hz, hy⟩, hK⟩ := h
  have m1 : ∀ x : Int32, x = (-1 : Int32) ↔ x.toInt = -1 := fun x => by rw [← Int32.toInt_inj]; exact Iff.rfl
  have z1 : z = (1 : Int32) ↔ z.toInt = 1 := by rw [← Int32.toInt_inj]; exact Iff.rfl
  have le0 : ¬ z = 1 → le12 z.toInt = (0 : Int32).toInt := fun q => by rw [z1] at q; unfold le12; rw [if_neg q]; rfl
  have le1 : z = 1 → le12 z.toInt = (1 : Int32).toInt := fun q => by rw [z1] at q; unfold le12; rw [if_pos q]; rfl
  have done : ∀ (M1 : zM) (w : Int32), ¬ M1.1 9 0 10 = -1 → K none M1 → X 36 [some (zR 9 0), some (zI g), some (zI z), some (zI y), some (zI w)] [] M1 := fun M1 w h10 fin => vc_X8_layStrokes_36 hX hk ⟨fun _ => ⟨fun _ => fin, fun q => absurd q h10⟩, fun _ => ⟨fun _ => ⟨fun _ => fin, fun q => absurd q h10⟩, fun q => absurd q h10⟩⟩
  refine vc_X8_layStrokes_0 hX hk (fun f1 hf1 M1 e1 => ⟨by decide, fun f2 hf2 _ M2 e2 M3 e3 => ?_⟩)
  have a1 : RpF (M1.1 9 5) a := by rw [e1, zmw_at]; exact ha.congr hf1
  have a3 : RpF (M3.1 9 5) a := by rw [e3, zmw_o (by decide), e2, zmw_o (by decide)]; exact a1
  have b3 : RpF (M3.1 9 6) a := a1.congr (fun k hk => by
    rw [t127_0] at hf2
    have := hf2 k hk
    rw [Nat.zero_add] at this
    rw [e3, zmw_o (by decide), e2, zmw_at, this])
  have s3 : scr M M3 := ((scr_mw (by decide) e1).tr (scr_mw (by decide) e2)).tr (scr_0 (upd_ne (by decide)) e3)
  refine ⟨a, a3, hy, fun v4 hv4 f4 hf4 M4 e4 => ⟨fun q M5 e5 => ?_, fun q M6 e6 => ?_⟩⟩
  · have s5 : scr M M5 := (s3.tr (scr_0 (hf4.2.2 16 (by decide) (by decide)) e4)).tr (scr_0 (upd_ne (by decide)) e5)
    rw [← Int32.toInt_inj, hv4] at q
    refine up (N := 16) (Q := fun j => ∀ (M1 : zM) (w : Int32), w.toInt = j → scr M M1 → RpF (M1.1 9 6) a → (M1.1 9 0 10).toInt = -1 → (∀ w', w' < j → pS a g.toInt y.toInt z.toInt 0 w' = false) → X 36 [some (zR 9 0), some (zI g), some (zI z), some (zI y), some (zI w)] [] M1) (fun M1 w hw hs h6 h10 hno => ?_) (fun j hj ih M1 w hw hs h6 h10 hno => ?_) 0 (by omega) M5 0 rfl s5 (by rw [e5, zmw_o (by decide), e4, zmw_o (by decide)]; exact b3) (by rw [e5, zmw_at, upd_at]; rfl) (fun w' h' => absurd h' (by omega))
    · refine vc_X8_layStrokes_36 hX hk ⟨fun _ => ⟨fun q => absurd ((m1 _).mpr h10) q, fun _ => ⟨a, h6, h10, ⟨hg, hz, hy⟩, fun M2 s2 r2 => hK M2 (hs.tr s2) (Or.inr ⟨q, -1, Or.inl ⟨rfl, fun w' h' => ?_⟩, Or.inr ⟨rfl, r2⟩⟩)⟩⟩, fun q => by simp only [Int32.lt_iff_toInt_lt, Int32.le_iff_toInt_le, ← Int32.toInt_inj, Int32.toInt_add, Int32.toInt_sub, Int32.toInt_mul, Int32.toInt_neg, Int.bmod, Int32.reduceToInt] at q; omega⟩
      by_cases h16 : w' < 16
      · exact hno w' h16
      · exact pS16 (by omega)
    · have key2 : ∀ (f1 : Nat → Int32) (M6 : zM) (e : Int) (f3 : Nat → Int32) (M7 M8 : zM) (v : Int32) (f5 : Nat → Int32) (M9 : zM), M6 = zmw M1 9 5 f1 → e = le12 z.toInt → tr_may a w.toInt = true → RpF f3 (tr_do a w.toInt g.toInt e) → M7 = zmw M6 9 5 f3 → M8 = zmw M7 9 0 (upd (M7.1 9 0) 11 w) → v.toInt = sk_law (tr_do a w.toInt g.toInt e) g.toInt y.toInt → (∀ j9, j9 ≠ 7 → j9 ≠ 8 → f5 j9 = M8.1 9 0 j9) → M9 = zmw M8 9 0 f5 → ((¬ v = z) → ∀ M10 : zM, (M10 = zmw M9 9 0 (upd (M9.1 9 0) 10 (-1 : Int32))) → X 36 [some (zR 9 0), some (zI g), some (zI z), some (zI y), some (zI (w + 1))] [] M10) ∧ ((v = z) → ∀ M11 : zM, (M11 = zmw M9 9 0 (upd (M9.1 9 0) 10 (1 : Int32))) → X 36 [some (zR 9 0), some (zI g), some (zI z), some (zI y), some (zI (w + 1))] [] M11) := by
        intro f1 M6 e f3 M7 M8 v f5 M9 e6 he hm2 hf3 e7 e8 hv hf5 e9
        rw [tr_do_sk (by omega), he, hw] at hv
        rw [trm (by omega), hw] at hm2
        refine ⟨fun q M10 e10 => ?_, fun q3 M11 e11 => ?_⟩
        · obtain ⟨g1, g2, g3, g4⟩ := stk e6 e7 e8 hf5 e9 e10
          refine ih M10 (w + 1) (z_inc hw (by omega)) (hs.tr g1) (by rw [g2]; exact h6) (by rw [g3]; rfl) (pS_no hno ?_)
          rw [← Int32.toInt_inj, hv] at q
          unfold pS
          show (_ && decide _) = false
          rw [decide_eq_false q]
          simp
        · obtain ⟨g1, g2, g3, g4⟩ := stk e6 e7 e8 hf5 e9 e11
          rw [← Int32.toInt_inj, hv] at q3
          have py : pS a g.toInt y.toInt z.toInt 0 j = true := by
            unfold pS
            rw [hm2]
            show (true && decide _) = true
            rw [decide_eq_true q3]
            rfl
          refine done M11 (w + 1) (by rw [g3]; decide) (hK M11 (hs.tr g1) (Or.inr ⟨q, (j : Int), Or.inr ⟨j, by omega, rfl, py, hno⟩, Or.inl ⟨by omega, by rw [g3]; rfl, by rw [g4]; exact hw⟩⟩))
      refine vc_X8_layStrokes_36 hX hk ⟨fun q => by simp only [Int32.lt_iff_toInt_lt, Int32.le_iff_toInt_le, ← Int32.toInt_inj, Int32.toInt_add, Int32.toInt_sub, Int32.toInt_mul, Int32.toInt_neg, Int.bmod, Int32.reduceToInt] at q; omega, fun _ => ⟨fun q => absurd ((m1 _).mpr h10) q, fun _ => ⟨by decide, fun f1 hf1 M6 e6 => ?_⟩⟩⟩
      have b6 : RpF (M6.1 9 5) a := h6.congr (fun k hk => by rw [e6, zmw_at, hf1 k hk, t127_0, Nat.zero_add])
      refine ⟨_, b6, by omega, fun v2 hv2 => ⟨fun q2 => ih M6 (w + 1) (z_inc hw (by omega)) (hs.tr (scr_mw (by decide) e6)) (by rw [e6, zmw_o (by decide)]; exact h6) (by rw [e6, zmw_o (by decide)]; exact h10) (pS_no hno ?_), fun q2 => ?_⟩⟩
      · rw [hv2, zp_0, trm (by omega), hw] at q2
        unfold pS
        simp [q2]
      · rw [hv2, zp_n] at q2
        refine ⟨fun qz => ⟨_, b6, by omega, q2, by omega, by decide, fun f3 hf3 M7 e7 M8 e8 => ⟨_, by rw [e8, zmw_o (by decide), e7, zmw_at]; exact hf3, hy, fun v5 hv5 f5 hf5 M9 e9 => key2 f1 M6 _ f3 M7 M8 v5 f5 M9 e6 (le0 qz).symm q2 hf3 e7 e8 hv5 hf5.2.2 e9⟩⟩, fun qz => ⟨_, b6, by omega, q2, by omega, by decide, fun f3 hf3 M7 e7 M8 e8 => ⟨_, by rw [e8, zmw_o (by decide), e7, zmw_at]; exact hf3, hy, fun v5 hv5 f5 hf5 M9 e9 => key2 f1 M6 _ f3 M7 M8 v5 f5 M9 e6 (le1 qz).symm q2 hf3 e7 e8 hv5 hf5.2.2 e9⟩⟩⟩
  · have s6 : scr M M6 := (s3.tr (scr_0 (hf4.2.2 16 (by decide) (by decide)) e4)).tr (scr_0 (upd_ne (by decide)) e6)
    rw [← Int32.toInt_inj, hv4] at q
    have g10 : M6.1 9 0 10 = 0 := by rw [e6, zmw_at, upd_at]
    have g11 : M6.1 9 0 11 = -1 := by rw [e6, zmw_at, upd_ne (by decide), e4, zmw_at, hf4.2.2 11 (by decide) (by decide), e3, zmw_at, upd_at]
    exact done M6 0 (by rw [g10]; decide) (hK M6 s6 (Or.inl ⟨q, by rw [g10]; rfl, by rw [g11]; rfl⟩))
theorem ms_X8_layStrokes : zMS 9 yX8_layStrokes cX8_layStrokes 5 none sp_X8_layStrokes := by
  intro d hd
  obtain ⟨d', rfl⟩ : ∃ d', d = d' + 9 := ⟨d - 9, by omega⟩
  refine zmethod (tab := tb_X8_layStrokes) (cut := [(36, [])]) (by decide) (tk_X8_layStrokes d' ms_X8_layHand ms_X8_laySkin ms_X8_ruleOf ms_X8_backTo ms_X8_mayStroke ms_X8_goStroke ms_X8_tryTwo) ?_
  intro kd as M K h
  unfold sp_X8_layStrokes at h
  split at h
  · rename_i g z y
    exact ⟨Nat.le_of_ble_eq_true rfl, fun X hX => mt_X8_layStrokes hX g z y M h⟩
  · exact h.elim

set_option maxRecDepth 20000 in
theorem mt_X8_strokes {kd : Nat → Nat} {K : zK} {X : zX} (hX : ∀ (n pc : Nat) (ls : zLS) (st : List zV) (M : zM), zrun (tb_X8_strokes kd K) [] n X pc ls st M → X pc ls st M) (g : Int32) (z : Int32) (y : Int32) (w : Int32) (M : zM) (h : (kd 9 = 8) ∧ ∃ s : St, (RpM M s) ∧ ∀ v : Int32, (er_strokes s g.toInt z.toInt y.toInt w.toInt v.toInt) → ∀ M' : zM, (RpM M' (es_strokes s g.toInt z.toInt y.toInt w.toInt)) → (fr0 M M') → K (some (zI v)) M') : X 0 [some (zR 9 0), some (zI (g)), some (zI (z)), some (zI (y)), some (zI (w))] [] M := by
  obtain ⟨hk, s, hR, hK⟩ := h
  have hyb := hR.1.1.1.1
  have hy1 : (M.1 9 1 126).toInt = s.1.1.2 := hR.1.1.2.2
  have m1 : ∀ x : Int32, x = (-1 : Int32) ↔ x.toInt = -1 := fun x => by rw [← Int32.toInt_inj]; exact Iff.rfl
  have bad : ∀ (v : Int32) (M2 : zM), ¬ (isT g.toInt ∧ inn z.toInt 1 2 ∧ inn y.toInt 0 99 ∧ inn w.toInt 0 1) → v = (-2 : Int32) → M2 = zmw M 9 4 (upd (M.1 9 4) 0 (M.1 9 4 0 + 1)) → K (some (zI v)) M2 := fun v M2 q hv e => by
    have hes : es_strokes s g.toInt z.toInt y.toInt w.toInt = sRf s 0 := by unfold es_strokes; rw [if_neg q]
    rw [hes] at hK
    have := hR.rf e (by decide)
    exact hK v (by unfold er_strokes; rw [if_neg q, hv]; rfl) M2 this.1 this.2
  refine vc_X8_strokes_0 hX hk (fun v1 h1 => ⟨fun q v2 h2 M2 e2 => bad v2 M2 ?_ h2 e2, fun q1 v3 h3 => ⟨fun q v4 h4 M4 e4 => bad v4 M4 ?_ h4 e4, fun q3 v5 h5 => ⟨fun q v6 h6 M6 e6 => bad v6 M6 ?_ h6 e6, fun q5 v7 h7 => ⟨fun q7 => ?_, fun q v9 h9 M9 e9 => bad v9 M9 ?_ h9 e9⟩⟩⟩⟩)
  · rw [h1, zp_0] at q; exact fun x => q x.1
  · rw [h3, Int32.toInt_toInt64, zp_0] at q; exact fun x => q x.2.1
  · rw [h5, Int32.toInt_toInt64, zp_0] at q; exact fun x => q x.2.2.1
  · rw [h1, zp_n] at q1
    rw [h3, Int32.toInt_toInt64, zp_n] at q3
    rw [h5, Int32.toInt_toInt64, zp_n] at q5
    rw [h7, Int32.toInt_toInt64, zp_n] at q7
    have q3' : 1 ≤ z.toInt ∧ z.toInt ≤ 2 := q3
    have q5' : 0 ≤ y.toInt ∧ y.toInt ≤ 99 := q5
    have q7' : 0 ≤ w.toInt ∧ w.toInt ≤ 1 := q7
    have hall : isT g.toInt ∧ inn z.toInt 1 2 ∧ inn y.toInt 0 99 ∧ inn w.toInt 0 1 := ⟨q1, q3', q5', q7'⟩
    have hes : es_strokes s g.toInt z.toInt y.toInt w.toInt = s := by unfold es_strokes; rw [if_pos hall]
    have hY : ((M.1 9 1 126) + y).toInt = s.1.1.2 + y.toInt := by simp only [Int32.lt_iff_toInt_lt, Int32.le_iff_toInt_le, ← Int32.toInt_inj, Int32.toInt_add, Int32.toInt_sub, Int32.toInt_mul, Int32.toInt_neg, Int.bmod, Int32.reduceToInt]; omega
    have w0 : w = 0 ↔ w.toInt = 0 := by rw [← Int32.toInt_inj]; exact Iff.rfl
    rw [hes] at hK
    rw [n126]
    refine ⟨zin_of (n := 915) (by rw [hk]; rfl) (by decide) (by decide), s.1.1, hR.1.1, ⟨q1, q3', by omega, by omega⟩, fun M8 s8 r8 => ?_⟩
    have R8 := hR.scrt s8
    rw [hY] at r8
    have hK' : ∀ x : Int32, (if sk_law s.1.1 g.toInt (s.1.1.2 + y.toInt) = z.toInt then x.toInt = (if w.toInt = 0 then 0 else -1) else ∃ f1, sRow s.1.1 g.toInt (s.1.1.2 + y.toInt) z.toInt 0 f1 ∧ ((f1 ≠ -1 ∧ x.toInt = (if w.toInt = 0 then 1 else f1)) ∨ (f1 = -1 ∧ ∃ f2, sRow s.1.1 g.toInt (s.1.1.2 + y.toInt) z.toInt 1 f2 ∧ x.toInt = (if f2 = -1 then -1 else if w.toInt = 0 then 2 else f2)))) → K (some (zI x)) M8 := fun x hx => hK x (by unfold er_strokes; rw [if_pos hall]; exact hx) M8 R8.1 R8.2
    refine ⟨fun qw => hK' _ ?_, fun qw => ⟨fun q10 => hK' _ ?_, fun q10 => hK' _ ?_⟩⟩ <;> rw [w0] at qw <;> (try rw [m1] at q10) <;> rcases r8 with ⟨hl, h10, h11⟩ | ⟨hl, f1, hf1, ⟨n1, h10, h11⟩ | ⟨n1, f2, hf2, ⟨n2, h10, h11⟩ | ⟨n2, h10⟩⟩⟩
    · rw [if_pos hl, if_pos qw]; exact h10
    · rw [if_neg hl]; exact ⟨f1, hf1, Or.inl ⟨n1, by rw [if_pos qw]; exact h10⟩⟩
    · rw [if_neg hl]; exact ⟨f1, hf1, Or.inr ⟨n1, f2, hf2, by rw [if_neg n2, if_pos qw]; exact h10⟩⟩
    · rw [if_neg hl]; exact ⟨f1, hf1, Or.inr ⟨n1, f2, hf2, by rw [if_pos n2]; exact h10⟩⟩
    · rw [if_pos hl, if_neg qw]; exact h11
    · rw [if_neg hl]; exact ⟨f1, hf1, Or.inl ⟨n1, by rw [if_neg qw]; exact h11⟩⟩
    · rw [if_neg hl]; exact ⟨f1, hf1, Or.inr ⟨n1, f2, hf2, by rw [if_neg n2, if_neg qw]; exact h11⟩⟩
    · exact absurd h10 q10
    · omega
    · omega
    · omega
    · rw [if_neg hl]; exact ⟨f1, hf1, Or.inr ⟨n1, f2, hf2, by rw [if_pos n2]; exact h10⟩⟩
  · rw [h7, Int32.toInt_toInt64, zp_0] at q; exact fun x => q x.2.2.2
theorem ms_X8_strokes : zMS 10 yX8_strokes cX8_strokes 5 (some .int) sp_X8_strokes := by
  intro d hd
  obtain ⟨d', rfl⟩ : ∃ d', d = d' + 10 := ⟨d - 10, by omega⟩
  refine zmethod (tab := tb_X8_strokes) (cut := []) (by decide) (tk_X8_strokes d' ms_X8_isThing ms_X8_in ms_X8_bad ms_X8_layStrokes) ?_
  intro kd as M K h
  unfold sp_X8_strokes at h
  split at h
  · rename_i g z y w
    exact ⟨Nat.le_of_ble_eq_true rfl, fun X hX => mt_X8_strokes hX g z y w M h⟩
  · exact h.elim

