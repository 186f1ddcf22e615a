theorem tok_ge (b : List Int) (p : Nat) : p ≤ (tok b p).1 ∧ (tok b p).1 ≤ (tok b p).2.2.2 := by
  unfold tok
  have h := skW_ge (P := isBk) (b := b) (p := p)
  generalize skW isBk b p = s at h
  unfold tokS
  have h1 := skW_ge (P := isLt) (b := b) (p := s)
  have h2 := skW_ge (P := isFg) (b := b) (p := s)
  split
  · exact ⟨h, h1⟩
  · split
    · exact ⟨h, h2⟩
    · split
      · exact ⟨h, Nat.le_refl _⟩
      · exact ⟨h, Nat.le_succ _⟩
theorem tok_stop {b : List Int} {p : Nat} (h : (tok b p).2.1 = 2) : (tok b p).1 < (tok b p).2.2.2 := by
  unfold tok at h ⊢
  generalize skW isBk b p = s at h ⊢
  unfold tokS at h ⊢
  split at h
  · exact absurd h (by show ¬ (4 : Int) = 2; decide)
  · split at h
    · exfalso
      revert h
      show ¬ (if skW isFg b s - s ≤ 2 then (3 : Int) else 1) = 2
      split <;> decide
    · split at h
      · exact absurd h (by show ¬ (0 : Int) = 2; decide)
      · rename_i h1 h2 h3
        rw [if_neg h1, if_neg h2, if_neg h3]
        exact Nat.lt_succ_self _
theorem rd4_ge {b : List Int} {c k g : Int} {T : Tk} {a : Sk} : T.2.2.2 ≤ (rdWr4 b c k g T a).2.1.2.2.2 := by
  have h := tok_ge b T.2.2.2
  unfold rdWr4
  split <;> (show T.2.2.2 ≤ (tok b T.2.2.2).2.2.2; omega)
theorem rd3_ge {b : List Int} {c k : Int} {T : Tk} {a : Sk} : T.2.2.2 ≤ (rdWr3 b c k T a).2.1.2.2.2 := by
  have h := tok_ge b T.2.2.2
  unfold rdWr3
  split
  · have := rd4_ge (b := b) (c := c) (k := k) (g := (tok b T.2.2.2).2.2.1) (T := tok b T.2.2.2) (a := a); omega
  · show T.2.2.2 ≤ (tok b T.2.2.2).2.2.2; omega
theorem rd2_ge {b : List Int} {c : Int} {T : Tk} {a : Sk} : T.2.2.2 ≤ (rdWr2 b c T a).2.1.2.2.2 := by
  have h := tok_ge b T.2.2.2
  unfold rdWr2
  split
  · have := rd3_ge (b := b) (c := c) (k := (tok b T.2.2.2).2.2.1) (T := tok b T.2.2.2) (a := a); omega
  · show T.2.2.2 ≤ (tok b T.2.2.2).2.2.2; omega
theorem rdIt_ge {b : List Int} {T : Tk} {a : Sk} : T.2.2.2 ≤ (rdIt b T a).2.1.2.2.2 := by
  have h := tok_ge b T.2.2.2
  unfold rdIt
  split
  · unfold rdWr
    split
    · have := rd2_ge (b := b) (c := (tok b T.2.2.2).2.2.1) (T := tok b T.2.2.2) (a := a); omega
    · show T.2.2.2 ≤ (tok b T.2.2.2).2.2.2; omega
  · split
    · unfold rdRb
      split <;> (show T.2.2.2 ≤ (tok b T.2.2.2).2.2.2; omega)
    · split
      · unfold rdYr
        split <;> (show T.2.2.2 ≤ (tok b T.2.2.2).2.2.2; omega)
      · exact Nat.le_refl _
set_option maxRecDepth 20000 in
theorem mt_X8_read {kd : Nat → Nat} {K : zK} {X : zX} (hX : ∀ (n pc : Nat) (ls : zLS) (st : List zV) (M : zM), zrun (tb_X8_read kd K) [(63, [2]), (105, [])] n X pc ls st M → X pc ls st M)  (M : zM) (h : (kd 9 = 8) ∧ ∃ s : St, (RpM M s) ∧ ∀ v : Int32, (v.toInt = (ev_read s).1) → ∀ M' : zM, (RpM M' (ev_read s).2) → (fr0 M M') → K (some (zI v)) M') : X 0 [some (zR 9 0), none, none] [] M := by
  obtain ⟨hk, s, hR, hK⟩ := h
  have hY := hR.2.2.1
  have h150 := hY.1
  obtain ⟨b, hb⟩ : ∃ b, s.2.2.1 = b := ⟨_, rfl⟩
  rw [hb] at hY h150
  have fail : ∀ (M1 : zM) (T : Tk) (a : Sk), scr M M1 → RpT2 (M1.1 9 0) b T → rdAll b = (-1, T, a) → K (some (zI ((-10 : Int32) - (M1.1 9 0 17)))) M1 := by
    intro M1 T a s1 hT hr
    have hev : ev_read s = (-10 - (T.1 : Int), s) := by unfold ev_read; rw [hb, hr]; rfl
    rw [hev] at hK
    have R1 := hR.scrt s1
    refine hK _ ?_ M1 R1.1 R1.2
    have h17 := hT.1
    have t5 := hT.2.2.2.2.1
    have t6 := hT.2.2.2.2.2.1
    show _ = -10 - (T.1 : Int)
    simp only [Int32.lt_iff_toInt_lt, Int32.le_iff_toInt_le, ← Int32.toInt_inj, Int32.toInt_add, Int32.toInt_sub, Int32.toInt_mul, Int32.toInt_neg, Int.bmod, Int32.reduceToInt]; omega
  have good : ∀ (M1 : zM) (T : Tk) (a : Sk) (n : Int32), scr M M1 → RpF (M1.1 9 10) a → (∀ j, 127 ≤ j → j < 153 → M1.1 9 10 j = 0) → 1 ≤ n.toInt → rdAll b = (n.toInt, T, a) → X 105 [some (zR 9 0), some (zI n), some (zI ((0 : Int32)))] [] M1 := by
    intro M1 T a n s1 ha hz hn hr
    have hev : ev_read s = (n.toInt, sRo s (a, [], [])) := by
      unfold ev_read
      rw [hb, hr]
      show (if n.toInt = -1 then _ else _) = _
      rw [if_neg (by omega)]
    rw [hev] at hK
    have R1 := hR.scrt s1
    refine up (N := 153) (Q := fun j => ∀ (M2 : zM) (k : Int32), k.toInt = j → (∀ m, m < j → M2.1 9 1 m = M1.1 9 10 m) → M2 = zmw M1 9 1 (M2.1 9 1) → X 105 [some (zR 9 0), some (zI n), some (zI k)] [] M2) (fun M2 k hk1 h0 e2 => ?_) (fun j hj ih M2 k hk1 h0 e2 => ?_) 0 (by omega) M1 0 rfl (fun m hm => absurd hm (by omega)) zmw_sf
    · refine vc_X8_read_105 hX hk ⟨fun _ => hK n rfl M2 ?_ (R1.2.tr ?_), fun q => by simp only [Int32.lt_iff_toInt_lt, Int32.le_iff_toInt_le, ← Int32.toInt_inj, Int32.toInt_add, Int32.toInt_sub, Int32.toInt_mul, Int32.toInt_neg, Int.bmod, Int32.reduceToInt] at q; omega⟩
      · have go : ∀ p, p ≠ 1 → M2.1 9 p = M1.1 9 p := fun p hp => by rw [e2, zmw_o hp]
        refine R1.1.g (M' := M2) (r := (a, [], [])) (b := s.2.2.1) ⟨ha.congr (fun k hk => h0 k (by omega)), ⟨by simp, ?_, fun i x hx => by simp at hx⟩, by simp, ?_, fun i x hx => by simp at hx⟩ (R1.1.2.2.1.congr (by rw [go 0 (by decide)]) (go 9 (by decide))) (go 2 (by decide)) (go 3 (by decide)) (go 4 (by decide)) (by rw [e2, zmw_2])
        · rw [h0 127 (by omega), hz 127 (by omega) (by omega)]; rfl
        · rw [h0 128 (by omega), hz 128 (by omega) (by omega)]; rfl
      · rw [e2]; exact fr0_mw
    · have hkn : k.toNatClampNeg = j := by rw [z_cl]; omega
      have g10 : M2.1 9 10 = M1.1 9 10 := by rw [e2, zmw_o (by decide)]
      refine vc_X8_read_105 hX hk ⟨fun q => by simp only [Int32.lt_iff_toInt_lt, Int32.le_iff_toInt_le, ← Int32.toInt_inj, Int32.toInt_add, Int32.toInt_sub, Int32.toInt_mul, Int32.toInt_neg, Int.bmod, Int32.reduceToInt] at q; omega, fun _ => ⟨zin_of (n := 153) (by rw [hk]; rfl) (by omega) (by omega), zin_of (n := 915) (by rw [hk]; rfl) (by omega) (by omega), fun M3 e3 => ?_⟩⟩
      rw [hkn, g10] at e3
      have g3 : M3.1 9 1 = upd (M2.1 9 1) j (M1.1 9 10 j) := by rw [e3, zmw_at]
      refine ih M3 (k + 1) (z_inc hk1 (by omega)) (fun m hm => ?_) ?_
      · rw [g3]
        by_cases hmj : m = j
        · subst hmj; rw [upd_at]
        · rw [upd_ne hmj]; exact h0 m (by omega)
      · rw [g3]; exact zmw_ex e2 e3
  have loop : ∀ (f : Nat) (T : Tk) (a : Sk) (n : Int32) (M1 : zM), b.length < f + T.1 → 1 ≤ n.toInt → n.toInt + f ≤ 200 → scr M M1 → RpT2 (M1.1 9 0) b T → RpF (M1.1 9 10) a → (∀ j, 127 ≤ j → j < 153 → M1.1 9 10 j = 0) → rdAll b = rdLp b f T a n.toInt → X 63 [some (zR 9 0), some (zI n), none] [] M1 := by
    intro f
    induction f with
    | zero =>
      intro T a n M1 hf hn hn2 s1 hT ha hz hr
      have t5 := hT.2.2.2.2.1
      have t6 := hT.2.2.2.2.2.1
      omega
    | succ f ih =>
      intro T a n M1 hf hn hn2 s1 hT ha hz hr
      have t5 := hT.2.2.2.2.1
      have hY1 := hY.scrt s1
      refine vc_X8_read_63 hX hk ⟨fun q => ?_, fun q => ⟨b, T, hY1, hT, a, ha, fun v1 h1 M2 r2 => ?_⟩⟩
      · rw [hT.k.2.2.2] at q
        have e : rdLp b (f + 1) T a n.toInt = (n.toInt, T, a) := by unfold rdLp; rw [if_pos q]
        rw [e] at hr
        exact good M1 T a n s1 ha hz hn hr
      · rw [hT.k.2.2.2] at q
        obtain ⟨r3, r4, r5, r6⟩ := r2
        have s2 := s1.tr r6
        have hge := rdIt_ge (b := b) (T := T) (a := a)
        refine ⟨fun q1 => ?_, fun q1 => ⟨fun q3 => ?_, fun q3 => ?_⟩⟩
        · rw [h1, zp_0] at q1
          have e : rdLp b (f + 1) T a n.toInt = (-1, (rdIt b T a).2.1, (rdIt b T a).2.2) := by unfold rdLp; rw [if_neg q, if_neg q1]
          rw [if_neg q1] at r3
          exact fail M2 _ _ s2 r3 (by rw [hr, e])
        · rw [h1, zp_n] at q1
          rw [if_pos q1] at r3
          rw [r3.k.2.2.1] at q3
          have hst := tok_stop q3
          have hg2 := tok_ge b (rdIt b T a).2.1.2.2.2
          refine ⟨b, _, hY.scrt s2, r3, fun f4 h4 M4 e4 => ?_⟩
          have s4 := s2.tr (scr_16 h4.2 e4)
          have hg3 := tok_ge b (tok b (rdIt b T a).2.1.2.2.2).2.2.2
          have hn1 : (n + 1).toInt = n.toInt + 1 := by simp only [Int32.lt_iff_toInt_lt, Int32.le_iff_toInt_le, ← Int32.toInt_inj, Int32.toInt_add, Int32.toInt_sub, Int32.toInt_mul, Int32.toInt_neg, Int.bmod, Int32.reduceToInt]; omega
          have g10 : M4.1 9 10 = M2.1 9 10 := by rw [e4, zmw_o (by decide)]
          refine ih (tok b (tok b (rdIt b T a).2.1.2.2.2).2.2.2) (rdIt b T a).2.2 (n + 1) M4 (by omega) (by omega) (by omega) s4 (by rw [e4, zmw_at]; exact h4.1) (by rw [g10]; exact r4 q1) (fun j hj hj2 => by rw [g10, r5 j hj, hz j hj hj2]) ?_
          rw [hr, hn1]
          conv => lhs; unfold rdLp
          rw [if_neg q, if_pos q1, if_pos q3]
        · rw [h1, zp_n] at q1
          rw [if_pos q1] at r3
          rw [r3.k.2.2.1] at q3
          have e : rdLp b (f + 1) T a n.toInt = (-1, tok b (rdIt b T a).2.1.2.2.2, (rdIt b T a).2.2) := by unfold rdLp; rw [if_neg q, if_pos q1, if_neg q3]
          exact fail M2 _ _ s2 r3 (by rw [hr, e])
  refine vc_X8_read_0 hX hk ⟨b, hY, 0, ⟨rfl, by omega⟩, fun f1 h1 M1 e1 => ?_⟩
  have s1 : scr M M1 := scr_16 h1.2 e1
  have T1 : RpT2 (M1.1 9 0) b (tok b 0) := by rw [e1, zmw_at]; exact h1.1
  refine ⟨b, _, hY.scrt s1, T1, 20, ⟨by decide, by decide, by decide⟩, fun v2 h2 => ⟨fun q2 => ⟨b, _, hY.scrt s1, T1, fun f3 h3 M3 e3 => ?_⟩, fun q2 => ?_⟩⟩
  · rw [h2, zp_n] at q2
    have s3 := s1.tr (scr_16 h3.2 e3)
    have T3 : RpT2 (M3.1 9 0) b (tok b (tok b 0).2.2.2) := by rw [e3, zmw_at]; exact h3.1
    refine ⟨fun q3 => ⟨b, _, hY.scrt s3, T3, fun f4 h4 M4 e4 => ⟨by decide, fun f5 h5 _ M5 e5 => ?_⟩⟩, fun q3 => ?_⟩
    · rw [T3.k.2.2.1] at q3
      have s4 := s3.tr (scr_16 h4.2 e4)
      have s5 := s4.tr (scr_mw (by decide) e5)
      have hst := tok_stop q3
      have hg1 := tok_ge b 0
      have hg2 := tok_ge b (tok b 0).2.2.2
      have hg3 := tok_ge b (tok b (tok b 0).2.2.2).2.2.2
      have e : rdAll b = rdLp b 150 (tok b (tok b (tok b 0).2.2.2).2.2.2) sk_0 1 := by unfold rdAll; rw [if_pos q2, if_pos q3]
      refine loop 150 _ sk_0 1 M5 (by omega) (by decide) (by show (1 : Int) + 150 ≤ 200; decide) s5 (by rw [e5, zmw_o (by decide), e4, zmw_at]; exact h4.1) ?_ (fun j hj hj2 => by rw [e5, zmw_at, h5 j hj2]) e
      rw [e5, zmw_at]
      exact (RpW_0 h5).1
    · rw [T3.k.2.2.1] at q3
      have e : rdAll b = (-1, tok b (tok b 0).2.2.2, sk_0) := by unfold rdAll; rw [if_pos q2, if_neg q3]
      exact fail M3 _ _ s3 T3 e
  · rw [h2, zp_0] at q2
    have e : rdAll b = (-1, tok b 0, sk_0) := by unfold rdAll; rw [if_neg q2]
    exact fail M1 _ _ s1 T1 e
theorem ms_X8_read : zMS 8 yX8_read cX8_read 3 (some .int) sp_X8_read := by
  intro d hd
  obtain ⟨d', rfl⟩ : ∃ d', d = d' + 8 := ⟨d - 8, by omega⟩
  refine zmethod (tab := tb_X8_read) (cut := [(63, [2]), (105, [])]) (by decide) (tk_X8_read d' ms_X8_lookAt ms_X8_isWord ms_X8_goBehind ms_X8_begin ms_X8_takesItem) ?_
  intro kd as M K h
  unfold sp_X8_read at h
  split at h
  · skip
    exact ⟨Nat.le_of_ble_eq_true rfl, fun X hX => mt_X8_read hX  M h⟩
  · exact h.elim

